def M_L_law : jm := (yL_law, cL_law, 7, (some .boolean), 12, 339, [])
theorem ck_L_8 : Cond.classLink RL 8 RX12 ∈ lw_tbl := (jv_at 188 (by decide +kernel))
theorem ib_X12 : Cond.instantiable RX12 10 ∈ lw_tbl := (jv_at 189 (by decide +kernel))
theorem iz_X12 : Cond.initialized RX12 ∈ lw_tbl := (jv_at 161 (by decide +kernel))
theorem df_X12 : ∀ j, j < 10 → defaultValue (tyX12 j) = vp_V [.null, .null, .null, .null, .null, .null, .int 0, .int 0, .null, .int 0] j := by decide +kernel
theorem lk_L_67 : Cond.methodLink RL 67 M_X12_init.1 ∈ lw_tbl := (jv_at 190 (by decide +kernel))
set_option maxRecDepth 20000 in
theorem me_X12_init : jv_me M_X12_init 0 := ⟨(jv_in1 (List.mem_of_getElem? (i := 32) rfl)), (jv_at 161 (by decide +kernel)), ⟨by decide, by decide⟩, by decide +kernel⟩
theorem ck_L_68 : Cond.classLink RL 68 RX13 ∈ lw_tbl := (jv_at 1346 (by decide +kernel))
theorem ib_X13 : Cond.instantiable RX13 36 ∈ lw_tbl := (jv_at 1347 (by decide +kernel))
theorem iz_X13 : Cond.initialized RX13 ∈ lw_tbl := (jv_at 172 (by decide +kernel))
theorem df_X13 : ∀ j, j < 36 → defaultValue (tyX13 j) = vp_V [.null, .int 0, .null, .null, .null, .int 0, .int 0, .int 0, .int 0, .int 0, .int 0, .int 0, .int 0, .int 0, .int 0, .null, .int 0, .null, .int 0, .null, .null, .null, .int 0, .null, .null, .null, .int 0, .int 0, .int 0, .int 0, .null, .null, .null, .null, .null, .null] j := by decide +kernel
theorem lk_L_70 : Cond.methodLink RL 70 M_X13_init.1 ∈ lw_tbl := (jv_at 1348 (by decide +kernel))
set_option maxRecDepth 20000 in
theorem me_X13_init : jv_me M_X13_init 0 := ⟨(jv_in5 (List.mem_of_getElem? (i := 230) rfl)), (jv_at 172 (by decide +kernel)), ⟨by decide, by decide⟩, by decide +kernel⟩
theorem ac_J : Cond.arrayClass .long ∈ lw_tbl := (jv_at 1912 (by decide +kernel))
theorem lk_L_197 : Cond.methodLink RL 197 M_X12_restore.1 ∈ lw_tbl := (jv_at 932 (by decide +kernel))
set_option maxRecDepth 20000 in
theorem me_X12_restore : jv_me M_X12_restore 0 := ⟨(jv_in4 (List.mem_of_getElem? (i := 55) rfl)), (jv_at 161 (by decide +kernel)), ⟨by decide, by decide⟩, by decide +kernel⟩
theorem lk_L_201 : Cond.methodLink RL 201 M_X13_restore.1 ∈ lw_tbl := (jv_at 1908 (by decide +kernel))
set_option maxRecDepth 20000 in
theorem me_X13_restore : jv_me M_X13_restore 0 := ⟨(jv_in8 (List.mem_of_getElem? (i := 71) rfl)), (jv_at 172 (by decide +kernel)), ⟨by decide, by decide⟩, by decide +kernel⟩
theorem mv_X13_restore : jv_mv M_X13_restore := ⟨(jv_at 1909 (by decide +kernel)), (jv_at 1910 (by decide +kernel))⟩
theorem mv_X12_restore : jv_mv M_X12_restore := ⟨(jv_at 933 (by decide +kernel)), (jv_at 934 (by decide +kernel))⟩
theorem lk_L_193 : Cond.methodLink RL 193 M_X12_image.1 ∈ lw_tbl := (jv_at 918 (by decide +kernel))
set_option maxRecDepth 20000 in
theorem me_X12_image : jv_me M_X12_image 0 := ⟨(jv_in4 (List.mem_of_getElem? (i := 41) rfl)), (jv_at 161 (by decide +kernel)), ⟨by decide, by decide⟩, by decide +kernel⟩
theorem lk_L_196 : Cond.methodLink RL 196 M_X13_image.1 ∈ lw_tbl := (jv_at 1904 (by decide +kernel))
set_option maxRecDepth 20000 in
theorem me_X13_image : jv_me M_X13_image 0 := ⟨(jv_in8 (List.mem_of_getElem? (i := 67) rfl)), (jv_at 172 (by decide +kernel)), ⟨by decide, by decide⟩, by decide +kernel⟩
theorem mv_X13_image : jv_mv M_X13_image := ⟨(jv_at 1905 (by decide +kernel)), (jv_at 1906 (by decide +kernel))⟩
theorem mv_X12_image : jv_mv M_X12_image := ⟨(jv_at 919 (by decide +kernel)), (jv_at 920 (by decide +kernel))⟩
theorem lk_L_190 : Cond.methodLink RL 190 M_L_years.1 ∈ lw_tbl := (jv_at 1314 (by decide +kernel))
set_option maxRecDepth 20000 in
theorem me_L_years : jv_meH M_L_years 5 := ⟨(jv_in5 (List.mem_of_getElem? (i := 196) rfl)), (jv_at 160 (by decide +kernel)), ⟨by decide, by decide⟩, by decide +kernel⟩
theorem lk_L_192 : Cond.methodLink RL 192 M_X13_years.1 ∈ lw_tbl := (jv_at 1886 (by decide +kernel))
set_option maxRecDepth 20000 in
theorem me_X13_years : jv_me M_X13_years 3 := ⟨(jv_in8 (List.mem_of_getElem? (i := 49) rfl)), (jv_at 172 (by decide +kernel)), ⟨by decide, by decide⟩, by decide +kernel⟩
theorem lk_L_82 : Cond.methodLink RL 82 M_X13_thrown.1 ∈ lw_tbl := (jv_at 1482 (by decide +kernel))
set_option maxRecDepth 20000 in
theorem me_X13_thrown : jv_me M_X13_thrown 0 := ⟨(jv_in6 (List.mem_of_getElem? (i := 125) rfl)), (jv_at 172 (by decide +kernel)), ⟨by decide, by decide⟩, by decide +kernel⟩
theorem mv_X13_thrown : jv_mv M_X13_thrown := ⟨(jv_at 1483 (by decide +kernel)), (jv_at 1484 (by decide +kernel))⟩
theorem mv_X13_years : jv_mv M_X13_years := ⟨(jv_at 1887 (by decide +kernel)), (jv_at 1888 (by decide +kernel))⟩
theorem ms_L_years : jv_ms M_L_years := (jv_at 1315 (by decide +kernel))
theorem lk_L_186 : Cond.methodLink RL 186 M_X12_forget.1 ∈ lw_tbl := (jv_at 914 (by decide +kernel))
set_option maxRecDepth 20000 in
theorem me_X12_forget : jv_me M_X12_forget 0 := ⟨(jv_in4 (List.mem_of_getElem? (i := 37) rfl)), (jv_at 161 (by decide +kernel)), ⟨by decide, by decide⟩, by decide +kernel⟩
theorem lk_L_189 : Cond.methodLink RL 189 M_X13_forget.1 ∈ lw_tbl := (jv_at 1858 (by decide +kernel))
set_option maxRecDepth 20000 in
theorem me_X13_forget : jv_me M_X13_forget 0 := ⟨(jv_in8 (List.mem_of_getElem? (i := 21) rfl)), (jv_at 172 (by decide +kernel)), ⟨by decide, by decide⟩, by decide +kernel⟩
theorem mv_X13_forget : jv_mv M_X13_forget := ⟨(jv_at 1859 (by decide +kernel)), (jv_at 1860 (by decide +kernel))⟩
theorem mv_X12_forget : jv_mv M_X12_forget := ⟨(jv_at 915 (by decide +kernel)), (jv_at 916 (by decide +kernel))⟩
theorem lk_L_183 : Cond.methodLink RL 183 M_L_look.1 ∈ lw_tbl := (jv_at 1301 (by decide +kernel))
set_option maxRecDepth 20000 in
theorem me_L_look : jv_meH M_L_look 3 := ⟨(jv_in5 (List.mem_of_getElem? (i := 183) rfl)), (jv_at 160 (by decide +kernel)), ⟨by decide, by decide⟩, by decide +kernel⟩
theorem lk_L_185 : Cond.methodLink RL 185 M_X13_look.1 ∈ lw_tbl := (jv_at 1878 (by decide +kernel))
set_option maxRecDepth 20000 in
theorem me_X13_look : jv_me M_X13_look 1 := ⟨(jv_in8 (List.mem_of_getElem? (i := 41) rfl)), (jv_at 172 (by decide +kernel)), ⟨by decide, by decide⟩, by decide +kernel⟩
theorem mv_X13_look : jv_mv M_X13_look := ⟨(jv_at 1879 (by decide +kernel)), (jv_at 1880 (by decide +kernel))⟩
theorem ms_L_look : jv_ms M_L_look := (jv_at 1302 (by decide +kernel))
theorem lk_L_179 : Cond.methodLink RL 179 M_X12_fits.1 ∈ lw_tbl := (jv_at 894 (by decide +kernel))
set_option maxRecDepth 20000 in
theorem me_X12_fits : jv_me M_X12_fits 0 := ⟨(jv_in4 (List.mem_of_getElem? (i := 17) rfl)), (jv_at 161 (by decide +kernel)), ⟨by decide, by decide⟩, by decide +kernel⟩
theorem lk_L_182 : Cond.methodLink RL 182 M_X13_fits.1 ∈ lw_tbl := (jv_at 1862 (by decide +kernel))
set_option maxRecDepth 20000 in
theorem me_X13_fits : jv_me M_X13_fits 0 := ⟨(jv_in8 (List.mem_of_getElem? (i := 25) rfl)), (jv_at 172 (by decide +kernel)), ⟨by decide, by decide⟩, by decide +kernel⟩
theorem mv_X13_fits : jv_mv M_X13_fits := ⟨(jv_at 1863 (by decide +kernel)), (jv_at 1864 (by decide +kernel))⟩
theorem mv_X12_fits : jv_mv M_X12_fits := ⟨(jv_at 895 (by decide +kernel)), (jv_at 896 (by decide +kernel))⟩
theorem lk_L_174 : Cond.methodLink RL 174 M_X12_note.1 ∈ lw_tbl := (jv_at 884 (by decide +kernel))
set_option maxRecDepth 20000 in
theorem me_X12_note : jv_me M_X12_note 3 := ⟨(jv_in4 (List.mem_of_getElem? (i := 7) rfl)), (jv_at 161 (by decide +kernel)), ⟨by decide, by decide⟩, by decide +kernel⟩
theorem lk_L_178 : Cond.methodLink RL 178 M_X13_note.1 ∈ lw_tbl := (jv_at 1854 (by decide +kernel))
set_option maxRecDepth 20000 in
theorem me_X13_note : jv_me M_X13_note 3 := ⟨(jv_in8 (List.mem_of_getElem? (i := 17) rfl)), (jv_at 172 (by decide +kernel)), ⟨by decide, by decide⟩, by decide +kernel⟩
theorem mv_X13_note : jv_mv M_X13_note := ⟨(jv_at 1855 (by decide +kernel)), (jv_at 1856 (by decide +kernel))⟩
theorem mv_X12_note : jv_mv M_X12_note := ⟨(jv_at 885 (by decide +kernel)), (jv_at 886 (by decide +kernel))⟩
theorem lk_L_171 : Cond.methodLink RL 171 M_L_steps.1 ∈ lw_tbl := (jv_at 1294 (by decide +kernel))
set_option maxRecDepth 20000 in
theorem me_L_steps : jv_meH M_L_steps 4 := ⟨(jv_in5 (List.mem_of_getElem? (i := 176) rfl)), (jv_at 160 (by decide +kernel)), ⟨by decide, by decide⟩, by decide +kernel⟩
theorem lk_L_173 : Cond.methodLink RL 173 M_X13_steps.1 ∈ lw_tbl := (jv_at 1850 (by decide +kernel))
set_option maxRecDepth 20000 in
theorem me_X13_steps : jv_me M_X13_steps 2 := ⟨(jv_in8 (List.mem_of_getElem? (i := 13) rfl)), (jv_at 172 (by decide +kernel)), ⟨by decide, by decide⟩, by decide +kernel⟩
theorem mv_X13_steps : jv_mv M_X13_steps := ⟨(jv_at 1851 (by decide +kernel)), (jv_at 1852 (by decide +kernel))⟩
theorem ms_L_steps : jv_ms M_L_steps := (jv_at 1295 (by decide +kernel))
theorem lk_L_168 : Cond.methodLink RL 168 M_L_shared.1 ∈ lw_tbl := (jv_at 1286 (by decide +kernel))
set_option maxRecDepth 20000 in
theorem me_L_shared : jv_meH M_L_shared 4 := ⟨(jv_in5 (List.mem_of_getElem? (i := 168) rfl)), (jv_at 160 (by decide +kernel)), ⟨by decide, by decide⟩, by decide +kernel⟩
theorem lk_L_170 : Cond.methodLink RL 170 M_X13_shared.1 ∈ lw_tbl := (jv_at 1846 (by decide +kernel))
set_option maxRecDepth 20000 in
theorem me_X13_shared : jv_me M_X13_shared 2 := ⟨(jv_in8 (List.mem_of_getElem? (i := 9) rfl)), (jv_at 172 (by decide +kernel)), ⟨by decide, by decide⟩, by decide +kernel⟩
theorem mv_X13_shared : jv_mv M_X13_shared := ⟨(jv_at 1847 (by decide +kernel)), (jv_at 1848 (by decide +kernel))⟩
theorem ms_L_shared : jv_ms M_L_shared := (jv_at 1287 (by decide +kernel))
theorem lk_L_165 : Cond.methodLink RL 165 M_L_set.1 ∈ lw_tbl := (jv_at 1250 (by decide +kernel))
set_option maxRecDepth 20000 in
theorem me_L_set : jv_meH M_L_set 4 := ⟨(jv_in5 (List.mem_of_getElem? (i := 132) rfl)), (jv_at 160 (by decide +kernel)), ⟨by decide, by decide⟩, by decide +kernel⟩
theorem lk_L_167 : Cond.methodLink RL 167 M_X13_set.1 ∈ lw_tbl := (jv_at 1819 (by decide +kernel))
set_option maxRecDepth 20000 in
theorem me_X13_set : jv_me M_X13_set 2 := ⟨(jv_in7 (List.mem_of_getElem? (i := 222) rfl)), (jv_at 172 (by decide +kernel)), ⟨by decide, by decide⟩, by decide +kernel⟩
theorem mv_X13_set : jv_mv M_X13_set := ⟨(jv_at 1820 (by decide +kernel)), (jv_at 1821 (by decide +kernel))⟩
theorem ms_L_set : jv_ms M_L_set := (jv_at 1251 (by decide +kernel))
theorem lk_L_161 : Cond.methodLink RL 161 M_X12_undo.1 ∈ lw_tbl := (jv_at 873 (by decide +kernel))
set_option maxRecDepth 20000 in
theorem me_X12_undo : jv_me M_X12_undo 0 := ⟨(jv_in3 (List.mem_of_getElem? (i := 236) rfl)), (jv_at 161 (by decide +kernel)), ⟨by decide, by decide⟩, by decide +kernel⟩
theorem lk_L_164 : Cond.methodLink RL 164 M_X13_undo.1 ∈ lw_tbl := (jv_at 1750 (by decide +kernel))
set_option maxRecDepth 20000 in
theorem me_X13_undo : jv_me M_X13_undo 0 := ⟨(jv_in7 (List.mem_of_getElem? (i := 153) rfl)), (jv_at 172 (by decide +kernel)), ⟨by decide, by decide⟩, by decide +kernel⟩
theorem mv_X13_undo : jv_mv M_X13_undo := ⟨(jv_at 1751 (by decide +kernel)), (jv_at 1752 (by decide +kernel))⟩
theorem mv_X12_undo : jv_mv M_X12_undo := ⟨(jv_at 874 (by decide +kernel)), (jv_at 875 (by decide +kernel))⟩
theorem lk_L_157 : Cond.methodLink RL 157 M_X12_kill.1 ∈ lw_tbl := (jv_at 867 (by decide +kernel))
set_option maxRecDepth 20000 in
theorem me_X12_kill : jv_me M_X12_kill 2 := ⟨(jv_in3 (List.mem_of_getElem? (i := 230) rfl)), (jv_at 161 (by decide +kernel)), ⟨by decide, by decide⟩, by decide +kernel⟩
theorem lk_L_160 : Cond.methodLink RL 160 M_X13_kill.1 ∈ lw_tbl := (jv_at 1746 (by decide +kernel))
set_option maxRecDepth 20000 in
theorem me_X13_kill : jv_me M_X13_kill 2 := ⟨(jv_in7 (List.mem_of_getElem? (i := 149) rfl)), (jv_at 172 (by decide +kernel)), ⟨by decide, by decide⟩, by decide +kernel⟩
theorem mv_X13_kill : jv_mv M_X13_kill := ⟨(jv_at 1747 (by decide +kernel)), (jv_at 1748 (by decide +kernel))⟩
theorem mv_X12_kill : jv_mv M_X12_kill := ⟨(jv_at 868 (by decide +kernel)), (jv_at 869 (by decide +kernel))⟩
theorem lk_L_153 : Cond.methodLink RL 153 M_X12_end.1 ∈ lw_tbl := (jv_at 861 (by decide +kernel))
set_option maxRecDepth 20000 in
theorem me_X12_end : jv_me M_X12_end 1 := ⟨(jv_in3 (List.mem_of_getElem? (i := 224) rfl)), (jv_at 161 (by decide +kernel)), ⟨by decide, by decide⟩, by decide +kernel⟩
theorem lk_L_156 : Cond.methodLink RL 156 M_X13_end.1 ∈ lw_tbl := (jv_at 1742 (by decide +kernel))
set_option maxRecDepth 20000 in
theorem me_X13_end : jv_me M_X13_end 1 := ⟨(jv_in7 (List.mem_of_getElem? (i := 145) rfl)), (jv_at 172 (by decide +kernel)), ⟨by decide, by decide⟩, by decide +kernel⟩
theorem mv_X13_end : jv_mv M_X13_end := ⟨(jv_at 1743 (by decide +kernel)), (jv_at 1744 (by decide +kernel))⟩
theorem mv_X12_end : jv_mv M_X12_end := ⟨(jv_at 862 (by decide +kernel)), (jv_at 863 (by decide +kernel))⟩
theorem lk_L_149 : Cond.methodLink RL 149 M_X12_enter.1 ∈ lw_tbl := (jv_at 855 (by decide +kernel))
set_option maxRecDepth 20000 in
theorem me_X12_enter : jv_me M_X12_enter 3 := ⟨(jv_in3 (List.mem_of_getElem? (i := 218) rfl)), (jv_at 161 (by decide +kernel)), ⟨by decide, by decide⟩, by decide +kernel⟩
theorem lk_L_152 : Cond.methodLink RL 152 M_X13_enter.1 ∈ lw_tbl := (jv_at 1738 (by decide +kernel))
set_option maxRecDepth 20000 in
theorem me_X13_enter : jv_me M_X13_enter 3 := ⟨(jv_in7 (List.mem_of_getElem? (i := 141) rfl)), (jv_at 172 (by decide +kernel)), ⟨by decide, by decide⟩, by decide +kernel⟩
theorem mv_X13_enter : jv_mv M_X13_enter := ⟨(jv_at 1739 (by decide +kernel)), (jv_at 1740 (by decide +kernel))⟩
theorem mv_X12_enter : jv_mv M_X12_enter := ⟨(jv_at 856 (by decide +kernel)), (jv_at 857 (by decide +kernel))⟩
theorem lk_L_145 : Cond.methodLink RL 145 M_X12_share.1 ∈ lw_tbl := (jv_at 849 (by decide +kernel))
set_option maxRecDepth 20000 in
theorem me_X12_share : jv_me M_X12_share 1 := ⟨(jv_in3 (List.mem_of_getElem? (i := 212) rfl)), (jv_at 161 (by decide +kernel)), ⟨by decide, by decide⟩, by decide +kernel⟩
theorem lk_L_148 : Cond.methodLink RL 148 M_X13_share.1 ∈ lw_tbl := (jv_at 1734 (by decide +kernel))
set_option maxRecDepth 20000 in
theorem me_X13_share : jv_me M_X13_share 1 := ⟨(jv_in7 (List.mem_of_getElem? (i := 137) rfl)), (jv_at 172 (by decide +kernel)), ⟨by decide, by decide⟩, by decide +kernel⟩
theorem mv_X13_share : jv_mv M_X13_share := ⟨(jv_at 1735 (by decide +kernel)), (jv_at 1736 (by decide +kernel))⟩
theorem mv_X12_share : jv_mv M_X12_share := ⟨(jv_at 850 (by decide +kernel)), (jv_at 851 (by decide +kernel))⟩
theorem lk_L_141 : Cond.methodLink RL 141 M_X12_mount.1 ∈ lw_tbl := (jv_at 843 (by decide +kernel))
set_option maxRecDepth 20000 in
theorem me_X12_mount : jv_me M_X12_mount 3 := ⟨(jv_in3 (List.mem_of_getElem? (i := 206) rfl)), (jv_at 161 (by decide +kernel)), ⟨by decide, by decide⟩, by decide +kernel⟩
theorem lk_L_144 : Cond.methodLink RL 144 M_X13_mount.1 ∈ lw_tbl := (jv_at 1730 (by decide +kernel))
set_option maxRecDepth 20000 in
theorem me_X13_mount : jv_me M_X13_mount 3 := ⟨(jv_in7 (List.mem_of_getElem? (i := 133) rfl)), (jv_at 172 (by decide +kernel)), ⟨by decide, by decide⟩, by decide +kernel⟩
theorem mv_X13_mount : jv_mv M_X13_mount := ⟨(jv_at 1731 (by decide +kernel)), (jv_at 1732 (by decide +kernel))⟩
theorem mv_X12_mount : jv_mv M_X12_mount := ⟨(jv_at 844 (by decide +kernel)), (jv_at 845 (by decide +kernel))⟩
theorem lk_L_137 : Cond.methodLink RL 137 M_X12_become.1 ∈ lw_tbl := (jv_at 837 (by decide +kernel))
set_option maxRecDepth 20000 in
theorem me_X12_become : jv_me M_X12_become 2 := ⟨(jv_in3 (List.mem_of_getElem? (i := 200) rfl)), (jv_at 161 (by decide +kernel)), ⟨by decide, by decide⟩, by decide +kernel⟩
theorem lk_L_140 : Cond.methodLink RL 140 M_X13_become.1 ∈ lw_tbl := (jv_at 1726 (by decide +kernel))
set_option maxRecDepth 20000 in
theorem me_X13_become : jv_me M_X13_become 2 := ⟨(jv_in7 (List.mem_of_getElem? (i := 129) rfl)), (jv_at 172 (by decide +kernel)), ⟨by decide, by decide⟩, by decide +kernel⟩
theorem mv_X13_become : jv_mv M_X13_become := ⟨(jv_at 1727 (by decide +kernel)), (jv_at 1728 (by decide +kernel))⟩
theorem mv_X12_become : jv_mv M_X12_become := ⟨(jv_at 838 (by decide +kernel)), (jv_at 839 (by decide +kernel))⟩
theorem lk_L_133 : Cond.methodLink RL 133 M_X12_map.1 ∈ lw_tbl := (jv_at 831 (by decide +kernel))
set_option maxRecDepth 20000 in
theorem me_X12_map : jv_me M_X12_map 5 := ⟨(jv_in3 (List.mem_of_getElem? (i := 194) rfl)), (jv_at 161 (by decide +kernel)), ⟨by decide, by decide⟩, by decide +kernel⟩
theorem lk_L_136 : Cond.methodLink RL 136 M_X13_map.1 ∈ lw_tbl := (jv_at 1722 (by decide +kernel))
set_option maxRecDepth 20000 in
theorem me_X13_map : jv_me M_X13_map 5 := ⟨(jv_in7 (List.mem_of_getElem? (i := 125) rfl)), (jv_at 172 (by decide +kernel)), ⟨by decide, by decide⟩, by decide +kernel⟩
theorem mv_X13_map : jv_mv M_X13_map := ⟨(jv_at 1723 (by decide +kernel)), (jv_at 1724 (by decide +kernel))⟩
theorem mv_X12_map : jv_mv M_X12_map := ⟨(jv_at 832 (by decide +kernel)), (jv_at 833 (by decide +kernel))⟩
theorem lk_L_129 : Cond.methodLink RL 129 M_X12_create.1 ∈ lw_tbl := (jv_at 821 (by decide +kernel))
set_option maxRecDepth 20000 in
theorem me_X12_create : jv_me M_X12_create 2 := ⟨(jv_in3 (List.mem_of_getElem? (i := 184) rfl)), (jv_at 161 (by decide +kernel)), ⟨by decide, by decide⟩, by decide +kernel⟩
theorem lk_L_132 : Cond.methodLink RL 132 M_X13_create.1 ∈ lw_tbl := (jv_at 1715 (by decide +kernel))
set_option maxRecDepth 20000 in
theorem me_X13_create : jv_me M_X13_create 2 := ⟨(jv_in7 (List.mem_of_getElem? (i := 118) rfl)), (jv_at 172 (by decide +kernel)), ⟨by decide, by decide⟩, by decide +kernel⟩
theorem mv_X13_create : jv_mv M_X13_create := ⟨(jv_at 1716 (by decide +kernel)), (jv_at 1717 (by decide +kernel))⟩
theorem mv_X12_create : jv_mv M_X12_create := ⟨(jv_at 822 (by decide +kernel)), (jv_at 823 (by decide +kernel))⟩
theorem lk_L_125 : Cond.methodLink RL 125 M_X12_fork.1 ∈ lw_tbl := (jv_at 526 (by decide +kernel))
set_option maxRecDepth 20000 in
theorem me_X12_fork : jv_me M_X12_fork 1 := ⟨(jv_in2 (List.mem_of_getElem? (i := 129) rfl)), (jv_at 161 (by decide +kernel)), ⟨by decide, by decide⟩, by decide +kernel⟩
theorem lk_L_128 : Cond.methodLink RL 128 M_X13_fork.1 ∈ lw_tbl := (jv_at 1700 (by decide +kernel))
set_option maxRecDepth 20000 in
theorem me_X13_fork : jv_me M_X13_fork 1 := ⟨(jv_in7 (List.mem_of_getElem? (i := 103) rfl)), (jv_at 172 (by decide +kernel)), ⟨by decide, by decide⟩, by decide +kernel⟩
theorem mv_X13_fork : jv_mv M_X13_fork := ⟨(jv_at 1701 (by decide +kernel)), (jv_at 1702 (by decide +kernel))⟩
theorem mv_X12_fork : jv_mv M_X12_fork := ⟨(jv_at 527 (by decide +kernel)), (jv_at 528 (by decide +kernel))⟩
theorem lk_L_122 : Cond.methodLink RL 122 M_L_over.1 ∈ lw_tbl := (jv_at 1243 (by decide +kernel))
set_option maxRecDepth 20000 in
theorem me_L_over : jv_meH M_L_over 4 := ⟨(jv_in5 (List.mem_of_getElem? (i := 125) rfl)), (jv_at 160 (by decide +kernel)), ⟨by decide, by decide⟩, by decide +kernel⟩
theorem lk_L_124 : Cond.methodLink RL 124 M_X13_over.1 ∈ lw_tbl := (jv_at 1815 (by decide +kernel))
set_option maxRecDepth 20000 in
theorem me_X13_over : jv_me M_X13_over 2 := ⟨(jv_in7 (List.mem_of_getElem? (i := 218) rfl)), (jv_at 172 (by decide +kernel)), ⟨by decide, by decide⟩, by decide +kernel⟩
theorem mv_X13_over : jv_mv M_X13_over := ⟨(jv_at 1816 (by decide +kernel)), (jv_at 1817 (by decide +kernel))⟩
theorem ms_L_over : jv_ms M_L_over := (jv_at 1244 (by decide +kernel))
theorem lk_L_119 : Cond.methodLink RL 119 M_L_may.1 ∈ lw_tbl := (jv_at 1232 (by decide +kernel))
set_option maxRecDepth 20000 in
theorem me_L_may : jv_meH M_L_may 5 := ⟨(jv_in5 (List.mem_of_getElem? (i := 114) rfl)), (jv_at 160 (by decide +kernel)), ⟨by decide, by decide⟩, by decide +kernel⟩
theorem lk_L_121 : Cond.methodLink RL 121 M_X13_may.1 ∈ lw_tbl := (jv_at 1811 (by decide +kernel))
set_option maxRecDepth 20000 in
theorem me_X13_may : jv_me M_X13_may 3 := ⟨(jv_in7 (List.mem_of_getElem? (i := 214) rfl)), (jv_at 172 (by decide +kernel)), ⟨by decide, by decide⟩, by decide +kernel⟩
theorem mv_X13_may : jv_mv M_X13_may := ⟨(jv_at 1812 (by decide +kernel)), (jv_at 1813 (by decide +kernel))⟩
theorem ms_L_may : jv_ms M_L_may := (jv_at 1233 (by decide +kernel))
theorem lk_L_116 : Cond.methodLink RL 116 M_L_mounted.1 ∈ lw_tbl := (jv_at 1225 (by decide +kernel))
set_option maxRecDepth 20000 in
theorem me_L_mounted : jv_meH M_L_mounted 4 := ⟨(jv_in5 (List.mem_of_getElem? (i := 107) rfl)), (jv_at 160 (by decide +kernel)), ⟨by decide, by decide⟩, by decide +kernel⟩
theorem lk_L_118 : Cond.methodLink RL 118 M_X13_mounted.1 ∈ lw_tbl := (jv_at 1807 (by decide +kernel))
set_option maxRecDepth 20000 in
theorem me_X13_mounted : jv_me M_X13_mounted 2 := ⟨(jv_in7 (List.mem_of_getElem? (i := 210) rfl)), (jv_at 172 (by decide +kernel)), ⟨by decide, by decide⟩, by decide +kernel⟩
theorem mv_X13_mounted : jv_mv M_X13_mounted := ⟨(jv_at 1808 (by decide +kernel)), (jv_at 1809 (by decide +kernel))⟩
theorem ms_L_mounted : jv_ms M_L_mounted := (jv_at 1226 (by decide +kernel))
theorem lk_L_113 : Cond.methodLink RL 113 M_L_range.1 ∈ lw_tbl := (jv_at 1218 (by decide +kernel))
set_option maxRecDepth 20000 in
theorem me_L_range : jv_meH M_L_range 5 := ⟨(jv_in5 (List.mem_of_getElem? (i := 100) rfl)), (jv_at 160 (by decide +kernel)), ⟨by decide, by decide⟩, by decide +kernel⟩
theorem lk_L_115 : Cond.methodLink RL 115 M_X13_range.1 ∈ lw_tbl := (jv_at 1803 (by decide +kernel))
set_option maxRecDepth 20000 in
theorem me_X13_range : jv_me M_X13_range 3 := ⟨(jv_in7 (List.mem_of_getElem? (i := 206) rfl)), (jv_at 172 (by decide +kernel)), ⟨by decide, by decide⟩, by decide +kernel⟩
theorem mv_X13_range : jv_mv M_X13_range := ⟨(jv_at 1804 (by decide +kernel)), (jv_at 1805 (by decide +kernel))⟩
theorem ms_L_range : jv_ms M_L_range := (jv_at 1219 (by decide +kernel))
theorem lk_L_110 : Cond.methodLink RL 110 M_L_outside.1 ∈ lw_tbl := (jv_at 1210 (by decide +kernel))
set_option maxRecDepth 20000 in
theorem me_L_outside : jv_meH M_L_outside 4 := ⟨(jv_in5 (List.mem_of_getElem? (i := 92) rfl)), (jv_at 160 (by decide +kernel)), ⟨by decide, by decide⟩, by decide +kernel⟩
theorem lk_L_112 : Cond.methodLink RL 112 M_X13_outside.1 ∈ lw_tbl := (jv_at 1799 (by decide +kernel))
set_option maxRecDepth 20000 in
theorem me_X13_outside : jv_me M_X13_outside 2 := ⟨(jv_in7 (List.mem_of_getElem? (i := 202) rfl)), (jv_at 172 (by decide +kernel)), ⟨by decide, by decide⟩, by decide +kernel⟩
theorem mv_X13_outside : jv_mv M_X13_outside := ⟨(jv_at 1800 (by decide +kernel)), (jv_at 1801 (by decide +kernel))⟩
theorem ms_L_outside : jv_ms M_L_outside := (jv_at 1211 (by decide +kernel))
theorem lk_L_107 : Cond.methodLink RL 107 M_L_inside.1 ∈ lw_tbl := (jv_at 1199 (by decide +kernel))
set_option maxRecDepth 20000 in
theorem me_L_inside : jv_meH M_L_inside 4 := ⟨(jv_in5 (List.mem_of_getElem? (i := 81) rfl)), (jv_at 160 (by decide +kernel)), ⟨by decide, by decide⟩, by decide +kernel⟩
theorem lk_L_109 : Cond.methodLink RL 109 M_X13_inside.1 ∈ lw_tbl := (jv_at 1795 (by decide +kernel))
set_option maxRecDepth 20000 in
theorem me_X13_inside : jv_me M_X13_inside 2 := ⟨(jv_in7 (List.mem_of_getElem? (i := 198) rfl)), (jv_at 172 (by decide +kernel)), ⟨by decide, by decide⟩, by decide +kernel⟩
theorem mv_X13_inside : jv_mv M_X13_inside := ⟨(jv_at 1796 (by decide +kernel)), (jv_at 1797 (by decide +kernel))⟩
theorem ms_L_inside : jv_ms M_L_inside := (jv_at 1200 (by decide +kernel))
theorem lk_L_104 : Cond.methodLink RL 104 M_L_listed.1 ∈ lw_tbl := (jv_at 1191 (by decide +kernel))
set_option maxRecDepth 20000 in
theorem me_L_listed : jv_meH M_L_listed 4 := ⟨(jv_in5 (List.mem_of_getElem? (i := 73) rfl)), (jv_at 160 (by decide +kernel)), ⟨by decide, by decide⟩, by decide +kernel⟩
theorem lk_L_106 : Cond.methodLink RL 106 M_X13_listed.1 ∈ lw_tbl := (jv_at 1791 (by decide +kernel))
set_option maxRecDepth 20000 in
theorem me_X13_listed : jv_me M_X13_listed 2 := ⟨(jv_in7 (List.mem_of_getElem? (i := 194) rfl)), (jv_at 172 (by decide +kernel)), ⟨by decide, by decide⟩, by decide +kernel⟩
theorem mv_X13_listed : jv_mv M_X13_listed := ⟨(jv_at 1792 (by decide +kernel)), (jv_at 1793 (by decide +kernel))⟩
theorem ms_L_listed : jv_ms M_L_listed := (jv_at 1192 (by decide +kernel))
theorem lk_L_101 : Cond.methodLink RL 101 M_L_number.1 ∈ lw_tbl := (jv_at 1180 (by decide +kernel))
set_option maxRecDepth 20000 in
theorem me_L_number : jv_meH M_L_number 4 := ⟨(jv_in5 (List.mem_of_getElem? (i := 62) rfl)), (jv_at 160 (by decide +kernel)), ⟨by decide, by decide⟩, by decide +kernel⟩
theorem lk_L_103 : Cond.methodLink RL 103 M_X13_number.1 ∈ lw_tbl := (jv_at 1787 (by decide +kernel))
set_option maxRecDepth 20000 in
theorem me_X13_number : jv_me M_X13_number 2 := ⟨(jv_in7 (List.mem_of_getElem? (i := 190) rfl)), (jv_at 172 (by decide +kernel)), ⟨by decide, by decide⟩, by decide +kernel⟩
theorem mv_X13_number : jv_mv M_X13_number := ⟨(jv_at 1788 (by decide +kernel)), (jv_at 1789 (by decide +kernel))⟩
theorem ms_L_number : jv_ms M_L_number := (jv_at 1181 (by decide +kernel))
theorem lk_L_97 : Cond.methodLink RL 97 M_L_space.1 ∈ lw_tbl := (jv_at 1149 (by decide +kernel))
set_option maxRecDepth 20000 in
theorem me_L_space : jv_meH M_L_space 5 := ⟨(jv_in5 (List.mem_of_getElem? (i := 31) rfl)), (jv_at 160 (by decide +kernel)), ⟨by decide, by decide⟩, by decide +kernel⟩
theorem lk_L_100 : Cond.methodLink RL 100 M_X13_space.1 ∈ lw_tbl := (jv_at 1775 (by decide +kernel))
set_option maxRecDepth 20000 in
theorem me_X13_space : jv_me M_X13_space 3 := ⟨(jv_in7 (List.mem_of_getElem? (i := 178) rfl)), (jv_at 172 (by decide +kernel)), ⟨by decide, by decide⟩, by decide +kernel⟩
theorem mv_X13_space : jv_mv M_X13_space := ⟨(jv_at 1776 (by decide +kernel)), (jv_at 1777 (by decide +kernel))⟩
theorem ms_L_space : jv_ms M_L_space := (jv_at 1150 (by decide +kernel))
theorem lk_L_93 : Cond.methodLink RL 93 M_L_process.1 ∈ lw_tbl := (jv_at 1132 (by decide +kernel))
set_option maxRecDepth 20000 in
theorem me_L_process : jv_meH M_L_process 4 := ⟨(jv_in5 (List.mem_of_getElem? (i := 14) rfl)), (jv_at 160 (by decide +kernel)), ⟨by decide, by decide⟩, by decide +kernel⟩
theorem lk_L_96 : Cond.methodLink RL 96 M_X13_process.1 ∈ lw_tbl := (jv_at 1771 (by decide +kernel))
set_option maxRecDepth 20000 in
theorem me_X13_process : jv_me M_X13_process 2 := ⟨(jv_in7 (List.mem_of_getElem? (i := 174) rfl)), (jv_at 172 (by decide +kernel)), ⟨by decide, by decide⟩, by decide +kernel⟩
theorem mv_X13_process : jv_mv M_X13_process := ⟨(jv_at 1772 (by decide +kernel)), (jv_at 1773 (by decide +kernel))⟩
theorem ms_L_process : jv_ms M_L_process := (jv_at 1133 (by decide +kernel))
theorem lk_L_90 : Cond.methodLink RL 90 M_L_count.1 ∈ lw_tbl := (jv_at 1098 (by decide +kernel))
set_option maxRecDepth 20000 in
theorem me_L_count : jv_meH M_L_count 3 := ⟨(jv_in4 (List.mem_of_getElem? (i := 220) rfl)), (jv_at 160 (by decide +kernel)), ⟨by decide, by decide⟩, by decide +kernel⟩
theorem lk_L_92 : Cond.methodLink RL 92 M_X13_count.1 ∈ lw_tbl := (jv_at 1754 (by decide +kernel))
set_option maxRecDepth 20000 in
theorem me_X13_count : jv_me M_X13_count 1 := ⟨(jv_in7 (List.mem_of_getElem? (i := 157) rfl)), (jv_at 172 (by decide +kernel)), ⟨by decide, by decide⟩, by decide +kernel⟩
theorem mv_X13_count : jv_mv M_X13_count := ⟨(jv_at 1755 (by decide +kernel)), (jv_at 1756 (by decide +kernel))⟩
theorem ms_L_count : jv_ms M_L_count := (jv_at 1099 (by decide +kernel))
theorem lk_L_86 : Cond.methodLink RL 86 M_X12_fault.1 ∈ lw_tbl := (jv_at 522 (by decide +kernel))
set_option maxRecDepth 20000 in
theorem me_X12_fault : jv_me M_X12_fault 0 := ⟨(jv_in2 (List.mem_of_getElem? (i := 125) rfl)), (jv_at 161 (by decide +kernel)), ⟨by decide, by decide⟩, by decide +kernel⟩
theorem lk_L_89 : Cond.methodLink RL 89 M_X13_fault.1 ∈ lw_tbl := (jv_at 1696 (by decide +kernel))
set_option maxRecDepth 20000 in
theorem me_X13_fault : jv_me M_X13_fault 0 := ⟨(jv_in7 (List.mem_of_getElem? (i := 99) rfl)), (jv_at 172 (by decide +kernel)), ⟨by decide, by decide⟩, by decide +kernel⟩
theorem mv_X13_fault : jv_mv M_X13_fault := ⟨(jv_at 1697 (by decide +kernel)), (jv_at 1698 (by decide +kernel))⟩
theorem mv_X12_fault : jv_mv M_X12_fault := ⟨(jv_at 523 (by decide +kernel)), (jv_at 524 (by decide +kernel))⟩
theorem lk_L_76 : Cond.methodLink RL 76 M_L_spaces.1 ∈ lw_tbl := (jv_at 936 (by decide +kernel))
set_option maxRecDepth 20000 in
theorem me_L_spaces : jv_meH M_L_spaces 3 := ⟨(jv_in4 (List.mem_of_getElem? (i := 58) rfl)), (jv_at 160 (by decide +kernel)), ⟨by decide, by decide⟩, by decide +kernel⟩
theorem lk_L_81 : Cond.methodLink RL 81 M_X13_spaces.1 ∈ lw_tbl := (jv_at 1490 (by decide +kernel))
set_option maxRecDepth 20000 in
theorem me_X13_spaces : jv_me M_X13_spaces 1 := ⟨(jv_in6 (List.mem_of_getElem? (i := 133) rfl)), (jv_at 172 (by decide +kernel)), ⟨by decide, by decide⟩, by decide +kernel⟩
theorem mv_X13_spaces : jv_mv M_X13_spaces := ⟨(jv_at 1491 (by decide +kernel)), (jv_at 1492 (by decide +kernel))⟩
theorem ms_L_spaces : jv_ms M_L_spaces := (jv_at 937 (by decide +kernel))
theorem lk_L_71 : Cond.methodLink RL 71 M_X12_feed.1 ∈ lw_tbl := (jv_at 514 (by decide +kernel))
set_option maxRecDepth 20000 in
theorem me_X12_feed : jv_me M_X12_feed 5 := ⟨(jv_in2 (List.mem_of_getElem? (i := 117) rfl)), (jv_at 161 (by decide +kernel)), ⟨by decide, by decide⟩, by decide +kernel⟩
theorem lk_L_75 : Cond.methodLink RL 75 M_X13_feed.1 ∈ lw_tbl := (jv_at 1486 (by decide +kernel))
set_option maxRecDepth 20000 in
theorem me_X13_feed : jv_me M_X13_feed 5 := ⟨(jv_in6 (List.mem_of_getElem? (i := 129) rfl)), (jv_at 172 (by decide +kernel)), ⟨by decide, by decide⟩, by decide +kernel⟩
theorem mv_X13_feed : jv_mv M_X13_feed := ⟨(jv_at 1487 (by decide +kernel)), (jv_at 1488 (by decide +kernel))⟩
theorem mv_X12_feed : jv_mv M_X12_feed := ⟨(jv_at 515 (by decide +kernel)), (jv_at 516 (by decide +kernel))⟩
theorem mi_X13_init : jv_mi M_X13_init := (jv_at 1349 (by decide +kernel))
theorem mi_X12_init : jv_mi M_X12_init := (jv_at 191 (by decide +kernel))
def f_L_law_b1737 (N : Nat) (xs : Nat → Int32) (R23 : Nat → Nat → Nat → Int32 → jh → Option (Int32 × jh)) (K23 : jh → Option (Int32 × jh)) (x1 : Nat) (x2 : Nat) (x3 : Nat) (x4 : Int32) (s0 : Int32) (s1 : Int32) (s2 : Int32) (s3 : Nat) (s4 : Int32) (h : jh) : Option (Int32 × jh) :=
  cV h s3 11 (f_X13_note s3 s2 s1 s0 h) fun v97 h98 =>
  (if s4 = v97 then
  R23 x1 x2 x3 (x4 + 6) h98
  else
  some (0, h98))
theorem o_f_L_law_b1737 {X : jx} {b0 : Nat × Nat} {R23 : Nat → Nat → Nat → Int32 → jh → Option (Int32 × jh)} {K23 : jh → Option (Int32 × jh)} (hR23 : ∀ (x1 : Nat) (x2 : Nat) (x3 : Nat) (x4 : Int32) (h : jh), jv_O X M_L_law b0 jeI 23 [some (.ref (jv_ad X 13)), some (.ref (x1)), some (.ref (x2)), some (.ref (x3)), some (.int (x4)), none, none] [] h (R23 x1 x2 x3 x4 h)) (hK23 : ∀  (h : jh), jv_O X M_L_law b0 jeI 1935 [none, none, none, none, none, none, none] [] h (K23  h)) (x1 : Nat) (x2 : Nat) (x3 : Nat) (x4 : Int32) (s0 : Int32) (s1 : Int32) (s2 : Int32) (s3 : Nat) (s4 : Int32) (h : jh) : jv_O X M_L_law b0 jeI 1737 [some (.ref (jv_ad X 13)), some (.ref (x1)), some (.ref (x2)), some (.ref (x3)), some (.int (x4)), none, none] [.int (s0), .int (s1), .int (s2), .ref (s3), .int (s4)] h (f_L_law_b1737 X.2.2.2.2.2.1 X.2.2.2.2.2.2 R23 K23 x1 x2 x3 x4 s0 s1 s2 s3 s4 h) := by
  unfold f_L_law_b1737
  refine jv_callV (en' := jeI) (pv := jpI) (As := [.int (s2), .int (s1), .int (s0)]) (S := [.int (s4)]) (jv_dk t_L_law_43 (k := 10) rfl) (fun _ => rfl) (Or.inl lk_L_178) me_X13_note mv_X13_note ⟨by decide, by decide⟩ rfl rfl rfl (Nat.le_of_ble_eq_true rfl) (P_X13_note X s3 s2 s1 s0 h) (fun v97 h98 => ?_)
  show jv_O X M_L_law _ jeI 1740 [some (.ref (jv_ad X 13)), some (.ref (x1)), some (.ref (x2)), some (.ref (x3)), some (.int (x4)), none, none] [.int (v97), .int (s4)] h98 _
  refine jv_icmp_eq (tgt := 1929) (jv_dk t_L_law_43 (k := 11) rfl) rfl (fun c99 => ?_) (fun c99 => ?_)
  · refine jv_iinc (v := 6) (L' := [some (.ref (jv_ad X 13)), some (.ref (x1)), some (.ref (x2)), some (.ref (x3)), some (.int (x4 + 6)), none, none]) (jv_dk t_L_law_48 (k := 3) rfl) rfl (by decide) rfl ?_
    refine jv_goto (tgt := 23) (jv_dk t_L_law_48 (k := 4) rfl) rfl ?_
    exact hR23 _ _ _ _ _ 
  · show jv_O _ _ _ _ 1743 _ _ _ _
    refine jv_iconst (v := 0) (jv_dk t_L_law_43 (k := 12) rfl) (by decide) ?_
    exact jv_iret (ty := .boolean) (jv_dk t_L_law_43 (k := 13) rfl) rfl rfl rfl
def f_L_law_b1707 (N : Nat) (xs : Nat → Int32) (R23 : Nat → Nat → Nat → Int32 → jh → Option (Int32 × jh)) (K23 : jh → Option (Int32 × jh)) (x1 : Nat) (x2 : Nat) (x3 : Nat) (x4 : Int32) (s0 : Int32) (s1 : Int32) (s2 : Int32) (s3 : Nat) (h : jh) : Option (Int32 × jh) :=
  cV h s3 10 (f_X12_note s3 s2 s1 s0 h) fun v91 h92 =>
  xI N xs (x4 + 1) fun v93 =>
  xI N xs (x4 + 2) fun v94 =>
  xI N xs (x4 + 3) fun v95 =>
  (if v95 = 0 then
  f_L_law_b1737 N xs R23 K23 x1 x2 x3 x4 0 v94 v93 x2 v91 h92
  else
  f_L_law_b1737 N xs R23 K23 x1 x2 x3 x4 1 v94 v93 x2 v91 h92)
theorem o_f_L_law_b1707 {X : jx} {b0 : Nat × Nat} {R23 : Nat → Nat → Nat → Int32 → jh → Option (Int32 × jh)} {K23 : jh → Option (Int32 × jh)} (hR23 : ∀ (x1 : Nat) (x2 : Nat) (x3 : Nat) (x4 : Int32) (h : jh), jv_O X M_L_law b0 jeI 23 [some (.ref (jv_ad X 13)), some (.ref (x1)), some (.ref (x2)), some (.ref (x3)), some (.int (x4)), none, none] [] h (R23 x1 x2 x3 x4 h)) (hK23 : ∀  (h : jh), jv_O X M_L_law b0 jeI 1935 [none, none, none, none, none, none, none] [] h (K23  h)) (x1 : Nat) (x2 : Nat) (x3 : Nat) (x4 : Int32) (s0 : Int32) (s1 : Int32) (s2 : Int32) (s3 : Nat) (h : jh) : jv_O X M_L_law b0 jeI 1707 [some (.ref (jv_ad X 13)), some (.ref (x1)), some (.ref (x2)), some (.ref (x3)), some (.int (x4)), none, none] [.int (s0), .int (s1), .int (s2), .ref (s3)] h (f_L_law_b1707 X.2.2.2.2.2.1 X.2.2.2.2.2.2 R23 K23 x1 x2 x3 x4 s0 s1 s2 s3 h) := by
  unfold f_L_law_b1707
  refine jv_callV (en' := jeI) (pv := jpI) (As := [.int (s2), .int (s1), .int (s0)]) (S := []) (jv_dk t_L_law_42 (k := 14) rfl) (fun _ => rfl) (Or.inl lk_L_174) me_X12_note mv_X12_note ⟨by decide, by decide⟩ rfl rfl rfl (Nat.le_of_ble_eq_true rfl) (P_X12_note X s3 s2 s1 s0 h) (fun v91 h92 => ?_)
  show jv_O X M_L_law _ jeI 1710 [some (.ref (jv_ad X 13)), some (.ref (x1)), some (.ref (x2)), some (.ref (x3)), some (.int (x4)), none, none] [.int (v91)] h92 _
  refine jv_aload_n (jv_dk t_L_law_42 (k := 15) rfl) rfl rfl (Or.inr ⟨_, rfl⟩) ?_
  refine jv_aload_n (jv_dk t_L_law_42 (k := 16) rfl) rfl rfl (Or.inr ⟨_, rfl⟩) ?_
  refine jv_iload (jv_dk t_L_law_42 (k := 17) rfl) rfl ?_
  refine jv_iconst (v := 1) (jv_dk t_L_law_42 (k := 18) rfl) (by decide) ?_
  refine jv_iadd (jv_dk t_L_law_42 (k := 19) rfl) ?_
  refine jv_xI (jv_dk t_L_law_42 (k := 20) rfl) (fun v93 => ?_)
  refine jv_aload_n (jv_dk t_L_law_42 (k := 21) rfl) rfl rfl (Or.inr ⟨_, rfl⟩) ?_
  refine jv_iload (jv_dk t_L_law_42 (k := 22) rfl) rfl ?_
  refine jv_iconst (v := 2) (jv_dk t_L_law_42 (k := 23) rfl) (by decide) ?_
  refine jv_iadd (jv_dk t_L_law_42 (k := 24) rfl) ?_
  refine jv_xI (jv_dk t_L_law_43 (k := 0) rfl) (fun v94 => ?_)
  refine jv_aload_n (jv_dk t_L_law_43 (k := 1) rfl) rfl rfl (Or.inr ⟨_, rfl⟩) ?_
  refine jv_iload (jv_dk t_L_law_43 (k := 2) rfl) rfl ?_
  refine jv_iconst (v := 3) (jv_dk t_L_law_43 (k := 3) rfl) (by decide) ?_
  refine jv_iadd (jv_dk t_L_law_43 (k := 4) rfl) ?_
  refine jv_xI (jv_dk t_L_law_43 (k := 5) rfl) (fun v95 => ?_)
  refine jv_if_eq (tgt := 1736) (jv_dk t_L_law_43 (k := 6) rfl) rfl (fun c96 => ?_) (fun c96 => ?_)
  · refine jv_iconst (v := 0) (jv_dk t_L_law_43 (k := 9) rfl) (by decide) ?_
    exact o_f_L_law_b1737 hR23 hK23 _ _ _ _ _ _ _ _ _ _ 
  · show jv_O _ _ _ _ 1732 _ _ _ _
    refine jv_iconst (v := 1) (jv_dk t_L_law_43 (k := 7) rfl) (by decide) ?_
    refine jv_goto (tgt := 1737) (jv_dk t_L_law_43 (k := 8) rfl) rfl ?_
    exact o_f_L_law_b1737 hR23 hK23 _ _ _ _ _ _ _ _ _ _ 
def f_L_law_h23 (N : Nat) (xs : Nat → Int32) (K23 : jh → Option (Int32 × jh)) (R23 : Nat → Nat → Nat → Int32 → jh → Option (Int32 × jh)) (x1 : Nat) (x2 : Nat) (x3 : Nat) (x4 : Int32) (h : jh) : Option (Int32 × jh) :=
  (if ((Int32.ofNat N) - 6) < x4 then
  K23  h
  else
  xI N xs x4 fun v10 =>
  (if (v10 &&& 63) = 0 then
  xI N xs (x4 + 1) fun v407 =>
  xI N xs (x4 + 2) fun v408 =>
  xI N xs (x4 + 3) fun v409 =>
  xI N xs (x4 + 4) fun v410 =>
  xI N xs (x4 + 5) fun v411 =>
  cV h x1 10 (f_X12_feed x1 v407 v408 v409 v410 v411 h) fun v412 h413 =>
  xI N xs (x4 + 1) fun v414 =>
  xI N xs (x4 + 2) fun v415 =>
  xI N xs (x4 + 3) fun v416 =>
  xI N xs (x4 + 4) fun v417 =>
  xI N xs (x4 + 5) fun v418 =>
  cV h413 x2 11 (f_X13_feed x2 v414 v415 v416 v417 v418 h413) fun v419 h420 =>
  (if v412 = v419 then
  R23 x1 x2 x3 (x4 + 6) h420
  else
  some (0, h420))
  else
  (if (v10 &&& 63) = 1 then
  xI N xs (x4 + 1) fun v395 =>
  bd (f_L_spaces x1 v395 x3 h) fun v396 h397 =>
  xI N xs (x4 + 1) fun v398 =>
  cV h397 x2 11 (f_X13_spaces x2 v398 h397) fun v399 h400 =>
  cV h400 x2 11 (f_X13_thrown x2 h400) fun v401 h402 =>
  (if v401 = v396 then
  (if ¬ v396 = 0 then
  R23 x1 x2 x3 (x4 + 6) h402
  else
  aL h402 x3 0 fun v405 =>
  (if (lg_cmp v405 v399.toInt64) = 0 then
  R23 x1 x2 x3 (x4 + 6) h402
  else
  some (0, h402)))
  else
  some (0, h402))
  else
  (if (v10 &&& 63) = 2 then
  cV h x1 10 (f_X12_fault x1 h) fun v390 h391 =>
  cV h391 x2 11 (f_X13_fault x2 h391) fun v392 h393 =>
  (if v390 = v392 then
  R23 x1 x2 x3 (x4 + 6) h393
  else
  some (0, h393))
  else
  (if (v10 &&& 63) = 3 then
  xI N xs (x4 + 1) fun v378 =>
  bd (f_L_count x1 v378 x3 h) fun v379 h380 =>
  xI N xs (x4 + 1) fun v381 =>
  cV h380 x2 11 (f_X13_count x2 v381 h380) fun v382 h383 =>
  cV h383 x2 11 (f_X13_thrown x2 h383) fun v384 h385 =>
  (if v384 = v379 then
  (if ¬ v379 = 0 then
  R23 x1 x2 x3 (x4 + 6) h385
  else
  aL h385 x3 0 fun v388 =>
  (if (lg_cmp v388 v382.toInt64) = 0 then
  R23 x1 x2 x3 (x4 + 6) h385
  else
  some (0, h385)))
  else
  some (0, h385))
  else
  (if (v10 &&& 63) = 4 then
  xI N xs (x4 + 1) fun v364 =>
  xI N xs (x4 + 2) fun v365 =>
  bd (f_L_process x1 v364 v365 x3 h) fun v366 h367 =>
  xI N xs (x4 + 1) fun v368 =>
  xI N xs (x4 + 2) fun v369 =>
  cV h367 x2 11 (f_X13_process x2 v368 v369 h367) fun v370 h371 =>
  cV h371 x2 11 (f_X13_thrown x2 h371) fun v372 h373 =>
  (if v372 = v366 then
  (if ¬ v366 = 0 then
  R23 x1 x2 x3 (x4 + 6) h373
  else
  aL h373 x3 0 fun v376 =>
  (if (lg_cmp v376 v370.toInt64) = 0 then
  R23 x1 x2 x3 (x4 + 6) h373
  else
  some (0, h373)))
  else
  some (0, h373))
  else
  (if (v10 &&& 63) = 5 then
  xI N xs (x4 + 1) fun v348 =>
  xI N xs (x4 + 2) fun v349 =>
  xI N xs (x4 + 3) fun v350 =>
  bd (f_L_space x1 v348 v349 v350 x3 h) fun v351 h352 =>
  xI N xs (x4 + 1) fun v353 =>
  xI N xs (x4 + 2) fun v354 =>
  xI N xs (x4 + 3) fun v355 =>
  cV h352 x2 11 (f_X13_space x2 v353 v354 v355 h352) fun v356 h357 =>
  cV h357 x2 11 (f_X13_thrown x2 h357) fun v358 h359 =>
  (if v358 = v351 then
  (if ¬ v351 = 0 then
  R23 x1 x2 x3 (x4 + 6) h359
  else
  aL h359 x3 0 fun v362 =>
  (if (lg_cmp v362 v356.toInt64) = 0 then
  R23 x1 x2 x3 (x4 + 6) h359
  else
  some (0, h359)))
  else
  some (0, h359))
  else
  (if (v10 &&& 63) = 6 then
  xI N xs (x4 + 1) fun v334 =>
  xI N xs (x4 + 2) fun v335 =>
  bd (f_L_number x1 v334 v335 x3 h) fun v336 h337 =>
  xI N xs (x4 + 1) fun v338 =>
  xI N xs (x4 + 2) fun v339 =>
  cV h337 x2 11 (f_X13_number x2 v338 v339 h337) fun v340 h341 =>
  cV h341 x2 11 (f_X13_thrown x2 h341) fun v342 h343 =>
  (if v342 = v336 then
  (if ¬ v336 = 0 then
  R23 x1 x2 x3 (x4 + 6) h343
  else
  aL h343 x3 0 fun v346 =>
  (if (lg_cmp v346 v340.toInt64) = 0 then
  R23 x1 x2 x3 (x4 + 6) h343
  else
  some (0, h343)))
  else
  some (0, h343))
  else
  (if (v10 &&& 63) = 7 then
  xI N xs (x4 + 1) fun v320 =>
  xI N xs (x4 + 2) fun v321 =>
  bd (f_L_listed x1 v320 v321 x3 h) fun v322 h323 =>
  xI N xs (x4 + 1) fun v324 =>
  xI N xs (x4 + 2) fun v325 =>
  cV h323 x2 11 (f_X13_listed x2 v324 v325 h323) fun v326 h327 =>
  cV h327 x2 11 (f_X13_thrown x2 h327) fun v328 h329 =>
  (if v328 = v322 then
  (if ¬ v322 = 0 then
  R23 x1 x2 x3 (x4 + 6) h329
  else
  aL h329 x3 0 fun v332 =>
  (if (lg_cmp v332 v326.toInt64) = 0 then
  R23 x1 x2 x3 (x4 + 6) h329
  else
  some (0, h329)))
  else
  some (0, h329))
  else
  (if (v10 &&& 63) = 8 then
  xI N xs (x4 + 1) fun v306 =>
  xI N xs (x4 + 2) fun v307 =>
  bd (f_L_inside x1 v306 v307 x3 h) fun v308 h309 =>
  xI N xs (x4 + 1) fun v310 =>
  xI N xs (x4 + 2) fun v311 =>
  cV h309 x2 11 (f_X13_inside x2 v310 v311 h309) fun v312 h313 =>
  cV h313 x2 11 (f_X13_thrown x2 h313) fun v314 h315 =>
  (if v314 = v308 then
  (if ¬ v308 = 0 then
  R23 x1 x2 x3 (x4 + 6) h315
  else
  aL h315 x3 0 fun v318 =>
  (if (lg_cmp v318 v312.toInt64) = 0 then
  R23 x1 x2 x3 (x4 + 6) h315
  else
  some (0, h315)))
  else
  some (0, h315))
  else
  (if (v10 &&& 63) = 9 then
  xI N xs (x4 + 1) fun v292 =>
  xI N xs (x4 + 2) fun v293 =>
  bd (f_L_outside x1 v292 v293 x3 h) fun v294 h295 =>
  xI N xs (x4 + 1) fun v296 =>
  xI N xs (x4 + 2) fun v297 =>
  cV h295 x2 11 (f_X13_outside x2 v296 v297 h295) fun v298 h299 =>
  cV h299 x2 11 (f_X13_thrown x2 h299) fun v300 h301 =>
  (if v300 = v294 then
  (if ¬ v294 = 0 then
  R23 x1 x2 x3 (x4 + 6) h301
  else
  aL h301 x3 0 fun v304 =>
  (if (lg_cmp v304 v298.toInt64) = 0 then
  R23 x1 x2 x3 (x4 + 6) h301
  else
  some (0, h301)))
  else
  some (0, h301))
  else
  (if (v10 &&& 63) = 10 then
  xI N xs (x4 + 1) fun v276 =>
  xI N xs (x4 + 2) fun v277 =>
  xI N xs (x4 + 3) fun v278 =>
  bd (f_L_range x1 v276 v277 v278 x3 h) fun v279 h280 =>
  xI N xs (x4 + 1) fun v281 =>
  xI N xs (x4 + 2) fun v282 =>
  xI N xs (x4 + 3) fun v283 =>
  cV h280 x2 11 (f_X13_range x2 v281 v282 v283 h280) fun v284 h285 =>
  cV h285 x2 11 (f_X13_thrown x2 h285) fun v286 h287 =>
  (if v286 = v279 then
  (if ¬ v279 = 0 then
  R23 x1 x2 x3 (x4 + 6) h287
  else
  aL h287 x3 0 fun v290 =>
  (if (lg_cmp v290 v284.toInt64) = 0 then
  R23 x1 x2 x3 (x4 + 6) h287
  else
  some (0, h287)))
  else
  some (0, h287))
  else
  (if (v10 &&& 63) = 11 then
  xI N xs (x4 + 1) fun v262 =>
  xI N xs (x4 + 2) fun v263 =>
  bd (f_L_mounted x1 v262 v263 x3 h) fun v264 h265 =>
  xI N xs (x4 + 1) fun v266 =>
  xI N xs (x4 + 2) fun v267 =>
  cV h265 x2 11 (f_X13_mounted x2 v266 v267 h265) fun v268 h269 =>
  cV h269 x2 11 (f_X13_thrown x2 h269) fun v270 h271 =>
  (if v270 = v264 then
  (if ¬ v264 = 0 then
  R23 x1 x2 x3 (x4 + 6) h271
  else
  aL h271 x3 0 fun v274 =>
  (if (lg_cmp v274 v268.toInt64) = 0 then
  R23 x1 x2 x3 (x4 + 6) h271
  else
  some (0, h271)))
  else
  some (0, h271))
  else
  (if (v10 &&& 63) = 12 then
  xI N xs (x4 + 1) fun v246 =>
  xI N xs (x4 + 2) fun v247 =>
  xI N xs (x4 + 3) fun v248 =>
  bd (f_L_may x1 v246 v247 v248 x3 h) fun v249 h250 =>
  xI N xs (x4 + 1) fun v251 =>
  xI N xs (x4 + 2) fun v252 =>
  xI N xs (x4 + 3) fun v253 =>
  cV h250 x2 11 (f_X13_may x2 v251 v252 v253 h250) fun v254 h255 =>
  cV h255 x2 11 (f_X13_thrown x2 h255) fun v256 h257 =>
  (if v256 = v249 then
  (if ¬ v249 = 0 then
  R23 x1 x2 x3 (x4 + 6) h257
  else
  aL h257 x3 0 fun v260 =>
  (if (lg_cmp v260 v254.toInt64) = 0 then
  R23 x1 x2 x3 (x4 + 6) h257
  else
  some (0, h257)))
  else
  some (0, h257))
  else
  (if (v10 &&& 63) = 13 then
  xI N xs (x4 + 1) fun v232 =>
  xI N xs (x4 + 2) fun v233 =>
  bd (f_L_over x1 v232 v233 x3 h) fun v234 h235 =>
  xI N xs (x4 + 1) fun v236 =>
  xI N xs (x4 + 2) fun v237 =>
  cV h235 x2 11 (f_X13_over x2 v236 v237 h235) fun v238 h239 =>
  cV h239 x2 11 (f_X13_thrown x2 h239) fun v240 h241 =>
  (if v240 = v234 then
  (if ¬ v234 = 0 then
  R23 x1 x2 x3 (x4 + 6) h241
  else
  aL h241 x3 0 fun v244 =>
  (if (lg_cmp v244 v238.toInt64) = 0 then
  R23 x1 x2 x3 (x4 + 6) h241
  else
  some (0, h241)))
  else
  some (0, h241))
  else
  (if (v10 &&& 63) = 14 then
  xI N xs (x4 + 1) fun v225 =>
  cV h x1 10 (f_X12_fork x1 v225 h) fun v226 h227 =>
  xI N xs (x4 + 1) fun v228 =>
  cV h227 x2 11 (f_X13_fork x2 v228 h227) fun v229 h230 =>
  (if v226 = v229 then
  R23 x1 x2 x3 (x4 + 6) h230
  else
  some (0, h230))
  else
  (if (v10 &&& 63) = 15 then
  xI N xs (x4 + 1) fun v216 =>
  xI N xs (x4 + 2) fun v217 =>
  cV h x1 10 (f_X12_create x1 v216 v217 h) fun v218 h219 =>
  xI N xs (x4 + 1) fun v220 =>
  xI N xs (x4 + 2) fun v221 =>
  cV h219 x2 11 (f_X13_create x2 v220 v221 h219) fun v222 h223 =>
  (if v218 = v222 then
  R23 x1 x2 x3 (x4 + 6) h223
  else
  some (0, h223))
  else
  (if (v10 &&& 63) = 16 then
  xI N xs (x4 + 1) fun v201 =>
  xI N xs (x4 + 2) fun v202 =>
  xI N xs (x4 + 3) fun v203 =>
  xI N xs (x4 + 4) fun v204 =>
  xI N xs (x4 + 5) fun v205 =>
  cV h x1 10 (f_X12_map x1 v201 v202 v203 v204 v205 h) fun v206 h207 =>
  xI N xs (x4 + 1) fun v208 =>
  xI N xs (x4 + 2) fun v209 =>
  xI N xs (x4 + 3) fun v210 =>
  xI N xs (x4 + 4) fun v211 =>
  xI N xs (x4 + 5) fun v212 =>
  cV h207 x2 11 (f_X13_map x2 v208 v209 v210 v211 v212 h207) fun v213 h214 =>
  (if v206 = v213 then
  R23 x1 x2 x3 (x4 + 6) h214
  else
  some (0, h214))
  else
  (if (v10 &&& 63) = 17 then
  xI N xs (x4 + 1) fun v192 =>
  xI N xs (x4 + 2) fun v193 =>
  cV h x1 10 (f_X12_become x1 v192 v193 h) fun v194 h195 =>
  xI N xs (x4 + 1) fun v196 =>
  xI N xs (x4 + 2) fun v197 =>
  cV h195 x2 11 (f_X13_become x2 v196 v197 h195) fun v198 h199 =>
  (if v194 = v198 then
  R23 x1 x2 x3 (x4 + 6) h199
  else
  some (0, h199))
  else
  (if (v10 &&& 63) = 18 then
  xI N xs (x4 + 1) fun v181 =>
  xI N xs (x4 + 2) fun v182 =>
  xI N xs (x4 + 3) fun v183 =>
  cV h x1 10 (f_X12_mount x1 v181 v182 v183 h) fun v184 h185 =>
  xI N xs (x4 + 1) fun v186 =>
  xI N xs (x4 + 2) fun v187 =>
  xI N xs (x4 + 3) fun v188 =>
  cV h185 x2 11 (f_X13_mount x2 v186 v187 v188 h185) fun v189 h190 =>
  (if v184 = v189 then
  R23 x1 x2 x3 (x4 + 6) h190
  else
  some (0, h190))
  else
  (if (v10 &&& 63) = 19 then
  xI N xs (x4 + 1) fun v174 =>
  cV h x1 10 (f_X12_share x1 v174 h) fun v175 h176 =>
  xI N xs (x4 + 1) fun v177 =>
  cV h176 x2 11 (f_X13_share x2 v177 h176) fun v178 h179 =>
  (if v175 = v178 then
  R23 x1 x2 x3 (x4 + 6) h179
  else
  some (0, h179))
  else
  (if (v10 &&& 63) = 20 then
  xI N xs (x4 + 1) fun v163 =>
  xI N xs (x4 + 2) fun v164 =>
  xI N xs (x4 + 3) fun v165 =>
  cV h x1 10 (f_X12_enter x1 v163 v164 v165 h) fun v166 h167 =>
  xI N xs (x4 + 1) fun v168 =>
  xI N xs (x4 + 2) fun v169 =>
  xI N xs (x4 + 3) fun v170 =>
  cV h167 x2 11 (f_X13_enter x2 v168 v169 v170 h167) fun v171 h172 =>
  (if v166 = v171 then
  R23 x1 x2 x3 (x4 + 6) h172
  else
  some (0, h172))
  else
  (if (v10 &&& 63) = 21 then
  xI N xs (x4 + 1) fun v156 =>
  cV h x1 10 (f_X12_end x1 v156 h) fun v157 h158 =>
  xI N xs (x4 + 1) fun v159 =>
  cV h158 x2 11 (f_X13_end x2 v159 h158) fun v160 h161 =>
  (if v157 = v160 then
  R23 x1 x2 x3 (x4 + 6) h161
  else
  some (0, h161))
  else
  (if (v10 &&& 63) = 22 then
  xI N xs (x4 + 1) fun v147 =>
  xI N xs (x4 + 2) fun v148 =>
  cV h x1 10 (f_X12_kill x1 v147 v148 h) fun v149 h150 =>
  xI N xs (x4 + 1) fun v151 =>
  xI N xs (x4 + 2) fun v152 =>
  cV h150 x2 11 (f_X13_kill x2 v151 v152 h150) fun v153 h154 =>
  (if v149 = v153 then
  R23 x1 x2 x3 (x4 + 6) h154
  else
  some (0, h154))
  else
  (if (v10 &&& 63) = 23 then
  cV h x1 10 (f_X12_undo x1 h) fun v142 h143 =>
  cV h143 x2 11 (f_X13_undo x2 h143) fun v144 h145 =>
  (if v142 = v144 then
  R23 x1 x2 x3 (x4 + 6) h145
  else
  some (0, h145))
  else
  (if (v10 &&& 63) = 24 then
  xI N xs (x4 + 1) fun v128 =>
  xI N xs (x4 + 2) fun v129 =>
  bd (f_L_set x1 v128 v129 x3 h) fun v130 h131 =>
  xI N xs (x4 + 1) fun v132 =>
  xI N xs (x4 + 2) fun v133 =>
  cV h131 x2 11 (f_X13_set x2 v132 v133 h131) fun v134 h135 =>
  cV h135 x2 11 (f_X13_thrown x2 h135) fun v136 h137 =>
  (if v136 = v130 then
  (if ¬ v130 = 0 then
  R23 x1 x2 x3 (x4 + 6) h137
  else
  aL h137 x3 0 fun v140 =>
  (if (lg_cmp v140 v134.toInt64) = 0 then
  R23 x1 x2 x3 (x4 + 6) h137
  else
  some (0, h137)))
  else
  some (0, h137))
  else
  (if (v10 &&& 63) = 25 then
  xI N xs (x4 + 1) fun v114 =>
  xI N xs (x4 + 2) fun v115 =>
  bd (f_L_shared x1 v114 v115 x3 h) fun v116 h117 =>
  xI N xs (x4 + 1) fun v118 =>
  xI N xs (x4 + 2) fun v119 =>
  cV h117 x2 11 (f_X13_shared x2 v118 v119 h117) fun v120 h121 =>
  cV h121 x2 11 (f_X13_thrown x2 h121) fun v122 h123 =>
  (if v122 = v116 then
  (if ¬ v116 = 0 then
  R23 x1 x2 x3 (x4 + 6) h123
  else
  aL h123 x3 0 fun v126 =>
  (if (lg_cmp v126 v120.toInt64) = 0 then
  R23 x1 x2 x3 (x4 + 6) h123
  else
  some (0, h123)))
  else
  some (0, h123))
  else
  (if (v10 &&& 63) = 26 then
  xI N xs (x4 + 1) fun v100 =>
  xI N xs (x4 + 2) fun v101 =>
  bd (f_L_steps x1 v100 v101 x3 h) fun v102 h103 =>
  xI N xs (x4 + 1) fun v104 =>
  xI N xs (x4 + 2) fun v105 =>
  cV h103 x2 11 (f_X13_steps x2 v104 v105 h103) fun v106 h107 =>
  cV h107 x2 11 (f_X13_thrown x2 h107) fun v108 h109 =>
  (if v108 = v102 then
  (if ¬ v102 = 0 then
  R23 x1 x2 x3 (x4 + 6) h109
  else
  aL h109 x3 0 fun v112 =>
  (if (lg_cmp v112 v106.toInt64) = 0 then
  R23 x1 x2 x3 (x4 + 6) h109
  else
  some (0, h109)))
  else
  some (0, h109))
  else
  (if (v10 &&& 63) = 27 then
  xI N xs (x4 + 1) fun v87 =>
  xI N xs (x4 + 2) fun v88 =>
  xI N xs (x4 + 3) fun v89 =>
  (if v89 = 0 then
  f_L_law_b1707 N xs R23 K23 x1 x2 x3 x4 0 v88 v87 x1 h
  else
  f_L_law_b1707 N xs R23 K23 x1 x2 x3 x4 1 v88 v87 x1 h)
  else
  (if (v10 &&& 63) = 28 then
  cV h x1 10 (f_X12_fits x1 h) fun v82 h83 =>
  cV h83 x2 11 (f_X13_fits x2 h83) fun v84 h85 =>
  (if v82 = v84 then
  R23 x1 x2 x3 (x4 + 6) h85
  else
  some (0, h85))
  else
  (if (v10 &&& 63) = 29 then
  xI N xs (x4 + 1) fun v70 =>
  bd (f_L_look x1 v70 x3 h) fun v71 h72 =>
  xI N xs (x4 + 1) fun v73 =>
  cV h72 x2 11 (f_X13_look x2 v73 h72) fun v74 h75 =>
  cV h75 x2 11 (f_X13_thrown x2 h75) fun v76 h77 =>
  (if v76 = v71 then
  (if ¬ v71 = 0 then
  R23 x1 x2 x3 (x4 + 6) h77
  else
  aL h77 x3 0 fun v80 =>
  (if (lg_cmp v80 v74.toInt64) = 0 then
  R23 x1 x2 x3 (x4 + 6) h77
  else
  some (0, h77)))
  else
  some (0, h77))
  else
  (if (v10 &&& 63) = 30 then
  cV h x1 10 (f_X12_forget x1 h) fun _ h68 =>
  cV h68 x2 11 (f_X13_forget x2 h68) fun _ h69 =>
  R23 x1 x2 x3 (x4 + 6) h69
  else
  (if (v10 &&& 63) = 31 then
  xI N xs (x4 + 1) fun v52 =>
  xI N xs (x4 + 2) fun v53 =>
  xI N xs (x4 + 3) fun v54 =>
  bd (f_L_years x1 v52 v53 v54 x3 h) fun v55 h56 =>
  xI N xs (x4 + 1) fun v57 =>
  xI N xs (x4 + 2) fun v58 =>
  xI N xs (x4 + 3) fun v59 =>
  cV h56 x2 11 (f_X13_years x2 v57 v58 v59 h56) fun v60 h61 =>
  cV h61 x2 11 (f_X13_thrown x2 h61) fun v62 h63 =>
  (if v62 = v55 then
  (if ¬ v55 = 0 then
  R23 x1 x2 x3 (x4 + 6) h63
  else
  aL h63 x3 0 fun v66 =>
  (if (lg_cmp v66 v60.toInt64) = 0 then
  R23 x1 x2 x3 (x4 + 6) h63
  else
  some (0, h63)))
  else
  some (0, h63))
  else
  (if (v10 &&& 63) = 32 then
  cV h x1 10 (f_X12_image x1 h) fun _ h50 =>
  cV h50 x2 11 (f_X13_image x2 h50) fun _ h51 =>
  R23 x1 x2 x3 (x4 + 6) h51
  else
  (if (v10 &&& 63) = 33 then
  cV h x1 10 (f_X12_restore x1 h) fun v45 h46 =>
  cV h46 x2 11 (f_X13_restore x2 h46) fun v47 h48 =>
  (if v45 = v47 then
  R23 x1 x2 x3 (x4 + 6) h48
  else
  some (0, h48))
  else
  R23 x1 x2 x3 (x4 + 6) h)))))))))))))))))))))))))))))))))))
theorem o_f_L_law_h23 {X : jx} {b0 : Nat × Nat} {K23 : jh → Option (Int32 × jh)} (hK23 : ∀  (h : jh), jv_O X M_L_law b0 jeI 1935 [none, none, none, none, none, none, none] [] h (K23  h)) : ∀ (x1 : Nat) (x2 : Nat) (x3 : Nat) (x4 : Int32) (h : jh), jv_O X M_L_law b0 jeI 23 [some (.ref (jv_ad X 13)), some (.ref (x1)), some (.ref (x2)), some (.ref (x3)), some (.int (x4)), none, none] [] h (jlp4 (f_L_law_h23 X.2.2.2.2.2.1 X.2.2.2.2.2.2 K23) jfu x1 x2 x3 x4 h) := by
  refine jlp4_ok (P := fun x1 x2 x3 x4 h o => jv_O X M_L_law b0 jeI 23 [some (.ref (jv_ad X 13)), some (.ref (x1)), some (.ref (x2)), some (.ref (x3)), some (.int (x4)), none, none] [] h o) (fun R23 hR23 => ?_) (fun _ _ _ _ _  => jv_none rfl) jfu
  intro x1 x2 x3 x4 h
  unfold f_L_law_h23
  refine jv_iload (jv_dk t_L_law_0 (k := 13) rfl) rfl ?_
  refine jv_aload_n (jv_dk t_L_law_0 (k := 14) rfl) rfl rfl (Or.inr ⟨_, rfl⟩) ?_
  refine jv_xlen (jv_dk t_L_law_0 (k := 15) rfl) ?_
  refine jv_bipush (v := 6) (jv_dk t_L_law_0 (k := 16) rfl) (by decide) ?_
  refine jv_isub (jv_dk t_L_law_0 (k := 17) rfl) ?_
  refine jv_icmp_gt (tgt := 1935) (jv_dk t_L_law_0 (k := 18) rfl) rfl (fun c9 => ?_) (fun c9 => ?_)
  · refine jv_le_row (jv_le_n (jv_le_n (jv_le_n (jv_le_n (jv_le_n (jv_le_n (jv_le_n (jv_le_nil)))))))) ?_
    exact hK23 _ 
  · show jv_O _ _ _ _ 33 _ _ _ _
    refine jv_aload_n (jv_dk t_L_law_0 (k := 19) rfl) rfl rfl (Or.inr ⟨_, rfl⟩) ?_
    refine jv_iload (jv_dk t_L_law_0 (k := 20) rfl) rfl ?_
    refine jv_xI (jv_dk t_L_law_0 (k := 21) rfl) (fun v10 => ?_)
    refine jv_bipush (v := 63) (jv_dk t_L_law_0 (k := 22) rfl) (by decide) ?_
    refine jv_iand (jv_dk t_L_law_0 (k := 23) rfl) ?_
    by_cases c11 : (v10 &&& 63) = 0
    · rw [if_pos c11]
      refine jv_tbl (tgt := 192) (jv_dk t_L_law_0 (k := 24) rfl) (by rw [c11] <;> decide) (by rw [c11] <;> decide) (by rw [c11] <;> rfl) rfl ?_
      refine jv_aload_n (jv_dk t_L_law_1 (k := 0) rfl) rfl rfl (Or.inr ⟨_, rfl⟩) ?_
      refine jv_aload_n (jv_dk t_L_law_1 (k := 1) rfl) rfl rfl (Or.inr ⟨_, rfl⟩) ?_
      refine jv_iload (jv_dk t_L_law_1 (k := 2) rfl) rfl ?_
      refine jv_iconst (v := 1) (jv_dk t_L_law_1 (k := 3) rfl) (by decide) ?_
      refine jv_iadd (jv_dk t_L_law_1 (k := 4) rfl) ?_
      refine jv_xI (jv_dk t_L_law_1 (k := 5) rfl) (fun v407 => ?_)
      refine jv_aload_n (jv_dk t_L_law_1 (k := 6) rfl) rfl rfl (Or.inr ⟨_, rfl⟩) ?_
      refine jv_iload (jv_dk t_L_law_1 (k := 7) rfl) rfl ?_
      refine jv_iconst (v := 2) (jv_dk t_L_law_1 (k := 8) rfl) (by decide) ?_
      refine jv_iadd (jv_dk t_L_law_1 (k := 9) rfl) ?_
      refine jv_xI (jv_dk t_L_law_1 (k := 10) rfl) (fun v408 => ?_)
      refine jv_aload_n (jv_dk t_L_law_1 (k := 11) rfl) rfl rfl (Or.inr ⟨_, rfl⟩) ?_
      refine jv_iload (jv_dk t_L_law_1 (k := 12) rfl) rfl ?_
      refine jv_iconst (v := 3) (jv_dk t_L_law_1 (k := 13) rfl) (by decide) ?_
      refine jv_iadd (jv_dk t_L_law_1 (k := 14) rfl) ?_
      refine jv_xI (jv_dk t_L_law_1 (k := 15) rfl) (fun v409 => ?_)
      refine jv_aload_n (jv_dk t_L_law_1 (k := 16) rfl) rfl rfl (Or.inr ⟨_, rfl⟩) ?_
      refine jv_iload (jv_dk t_L_law_1 (k := 17) rfl) rfl ?_
      refine jv_iconst (v := 4) (jv_dk t_L_law_1 (k := 18) rfl) (by decide) ?_
      refine jv_iadd (jv_dk t_L_law_1 (k := 19) rfl) ?_
      refine jv_xI (jv_dk t_L_law_1 (k := 20) rfl) (fun v410 => ?_)
      refine jv_aload_n (jv_dk t_L_law_1 (k := 21) rfl) rfl rfl (Or.inr ⟨_, rfl⟩) ?_
      refine jv_iload (jv_dk t_L_law_1 (k := 22) rfl) rfl ?_
      refine jv_iconst (v := 5) (jv_dk t_L_law_1 (k := 23) rfl) (by decide) ?_
      refine jv_iadd (jv_dk t_L_law_1 (k := 24) rfl) ?_
      refine jv_xI (jv_dk t_L_law_2 (k := 0) rfl) (fun v411 => ?_)
      refine jv_callV (en' := jeI) (pv := jpI) (As := [.int (v407), .int (v408), .int (v409), .int (v410), .int (v411)]) (S := []) (jv_dk t_L_law_2 (k := 1) rfl) (fun _ => rfl) (Or.inl lk_L_71) me_X12_feed mv_X12_feed ⟨by decide, by decide⟩ rfl rfl rfl (Nat.le_of_ble_eq_true rfl) (P_X12_feed X x1 v407 v408 v409 v410 v411 h) (fun v412 h413 => ?_)
      show jv_O X M_L_law _ jeI 226 [some (.ref (jv_ad X 13)), some (.ref (x1)), some (.ref (x2)), some (.ref (x3)), some (.int (x4)), none, none] [.int (v412)] h413 _
      refine jv_aload_n (jv_dk t_L_law_2 (k := 2) rfl) rfl rfl (Or.inr ⟨_, rfl⟩) ?_
      refine jv_aload_n (jv_dk t_L_law_2 (k := 3) rfl) rfl rfl (Or.inr ⟨_, rfl⟩) ?_
      refine jv_iload (jv_dk t_L_law_2 (k := 4) rfl) rfl ?_
      refine jv_iconst (v := 1) (jv_dk t_L_law_2 (k := 5) rfl) (by decide) ?_
      refine jv_iadd (jv_dk t_L_law_2 (k := 6) rfl) ?_
      refine jv_xI (jv_dk t_L_law_2 (k := 7) rfl) (fun v414 => ?_)
      refine jv_aload_n (jv_dk t_L_law_2 (k := 8) rfl) rfl rfl (Or.inr ⟨_, rfl⟩) ?_
      refine jv_iload (jv_dk t_L_law_2 (k := 9) rfl) rfl ?_
      refine jv_iconst (v := 2) (jv_dk t_L_law_2 (k := 10) rfl) (by decide) ?_
      refine jv_iadd (jv_dk t_L_law_2 (k := 11) rfl) ?_
      refine jv_xI (jv_dk t_L_law_2 (k := 12) rfl) (fun v415 => ?_)
      refine jv_aload_n (jv_dk t_L_law_2 (k := 13) rfl) rfl rfl (Or.inr ⟨_, rfl⟩) ?_
      refine jv_iload (jv_dk t_L_law_2 (k := 14) rfl) rfl ?_
      refine jv_iconst (v := 3) (jv_dk t_L_law_2 (k := 15) rfl) (by decide) ?_
      refine jv_iadd (jv_dk t_L_law_2 (k := 16) rfl) ?_
      refine jv_xI (jv_dk t_L_law_2 (k := 17) rfl) (fun v416 => ?_)
      refine jv_aload_n (jv_dk t_L_law_2 (k := 18) rfl) rfl rfl (Or.inr ⟨_, rfl⟩) ?_
      refine jv_iload (jv_dk t_L_law_2 (k := 19) rfl) rfl ?_
      refine jv_iconst (v := 4) (jv_dk t_L_law_2 (k := 20) rfl) (by decide) ?_
      refine jv_iadd (jv_dk t_L_law_2 (k := 21) rfl) ?_
      refine jv_xI (jv_dk t_L_law_2 (k := 22) rfl) (fun v417 => ?_)
      refine jv_aload_n (jv_dk t_L_law_2 (k := 23) rfl) rfl rfl (Or.inr ⟨_, rfl⟩) ?_
      refine jv_iload (jv_dk t_L_law_2 (k := 24) rfl) rfl ?_
      refine jv_iconst (v := 5) (jv_dk t_L_law_3 (k := 0) rfl) (by decide) ?_
      refine jv_iadd (jv_dk t_L_law_3 (k := 1) rfl) ?_
      refine jv_xI (jv_dk t_L_law_3 (k := 2) rfl) (fun v418 => ?_)
      refine jv_callV (en' := jeI) (pv := jpI) (As := [.int (v414), .int (v415), .int (v416), .int (v417), .int (v418)]) (S := [.int (v412)]) (jv_dk t_L_law_3 (k := 3) rfl) (fun _ => rfl) (Or.inl lk_L_75) me_X13_feed mv_X13_feed ⟨by decide, by decide⟩ rfl rfl rfl (Nat.le_of_ble_eq_true rfl) (P_X13_feed X x2 v414 v415 v416 v417 v418 h413) (fun v419 h420 => ?_)
      show jv_O X M_L_law _ jeI 260 [some (.ref (jv_ad X 13)), some (.ref (x1)), some (.ref (x2)), some (.ref (x3)), some (.int (x4)), none, none] [.int (v419), .int (v412)] h420 _
      refine jv_icmp_eq (tgt := 1929) (jv_dk t_L_law_3 (k := 4) rfl) rfl (fun c421 => ?_) (fun c421 => ?_)
      · refine jv_iinc (v := 6) (L' := [some (.ref (jv_ad X 13)), some (.ref (x1)), some (.ref (x2)), some (.ref (x3)), some (.int (x4 + 6)), none, none]) (jv_dk t_L_law_48 (k := 3) rfl) rfl (by decide) rfl ?_
        refine jv_goto (tgt := 23) (jv_dk t_L_law_48 (k := 4) rfl) rfl ?_
        exact hR23 _ _ _ _ _ 
      · show jv_O _ _ _ _ 263 _ _ _ _
        refine jv_iconst (v := 0) (jv_dk t_L_law_3 (k := 5) rfl) (by decide) ?_
        exact jv_iret (ty := .boolean) (jv_dk t_L_law_3 (k := 6) rfl) rfl rfl rfl
    rw [if_neg c11]
    by_cases c12 : (v10 &&& 63) = 1
    · rw [if_pos c12]
      refine jv_tbl (tgt := 265) (jv_dk t_L_law_0 (k := 24) rfl) (by rw [c12] <;> decide) (by rw [c12] <;> decide) (by rw [c12] <;> rfl) rfl ?_
      refine jv_aload_n (jv_dk t_L_law_3 (k := 7) rfl) rfl rfl (Or.inr ⟨_, rfl⟩) ?_
      refine jv_aload_n (jv_dk t_L_law_3 (k := 8) rfl) rfl rfl (Or.inr ⟨_, rfl⟩) ?_
      refine jv_iload (jv_dk t_L_law_3 (k := 9) rfl) rfl ?_
      refine jv_iconst (v := 1) (jv_dk t_L_law_3 (k := 10) rfl) (by decide) ?_
      refine jv_iadd (jv_dk t_L_law_3 (k := 11) rfl) ?_
      refine jv_xI (jv_dk t_L_law_3 (k := 12) rfl) (fun v395 => ?_)
      refine jv_aload_n (jv_dk t_L_law_3 (k := 13) rfl) rfl rfl (Or.inr ⟨_, rfl⟩) ?_
      refine jv_callH (en' := jeI) (pv := jpI) (As := [.ref (x1), .int (v395), .ref (x3)]) (S := []) (jv_dk t_L_law_3 (k := 14) rfl) (fun _ => rfl) lk_L_76 me_L_spaces ms_L_spaces ⟨by decide, by decide⟩ rfl rfl (Nat.le_of_ble_eq_true rfl) (P_L_spaces X x1 v395 x3 h) (fun v396 h397 => ?_)
      show jv_O X M_L_law _ jeI 276 [some (.ref (jv_ad X 13)), some (.ref (x1)), some (.ref (x2)), some (.ref (x3)), some (.int (x4)), none, none] [.int (v396)] h397 _
      refine jv_istore (L' := [some (.ref (jv_ad X 13)), some (.ref (x1)), some (.ref (x2)), some (.ref (x3)), some (.int (x4)), some (.int (v396)), none]) (jv_dk t_L_law_3 (k := 15) rfl) (Nat.le_of_ble_eq_true rfl) rfl ?_
      refine jv_aload_n (jv_dk t_L_law_3 (k := 16) rfl) rfl rfl (Or.inr ⟨_, rfl⟩) ?_
      refine jv_aload_n (jv_dk t_L_law_3 (k := 17) rfl) rfl rfl (Or.inr ⟨_, rfl⟩) ?_
      refine jv_iload (jv_dk t_L_law_3 (k := 18) rfl) rfl ?_
      refine jv_iconst (v := 1) (jv_dk t_L_law_3 (k := 19) rfl) (by decide) ?_
      refine jv_iadd (jv_dk t_L_law_3 (k := 20) rfl) ?_
      refine jv_xI (jv_dk t_L_law_3 (k := 21) rfl) (fun v398 => ?_)
      refine jv_callV (en' := jeI) (pv := jpI) (As := [.int (v398)]) (S := []) (jv_dk t_L_law_3 (k := 22) rfl) (fun _ => rfl) (Or.inl lk_L_81) me_X13_spaces mv_X13_spaces ⟨by decide, by decide⟩ rfl rfl rfl (Nat.le_of_ble_eq_true rfl) (P_X13_spaces X x2 v398 h397) (fun v399 h400 => ?_)
      show jv_O X M_L_law _ jeI 288 [some (.ref (jv_ad X 13)), some (.ref (x1)), some (.ref (x2)), some (.ref (x3)), some (.int (x4)), some (.int (v396)), none] [.int (v399)] h400 _
      refine jv_istore (L' := [some (.ref (jv_ad X 13)), some (.ref (x1)), some (.ref (x2)), some (.ref (x3)), some (.int (x4)), some (.int (v396)), some (.int (v399))]) (jv_dk t_L_law_3 (k := 23) rfl) (Nat.le_of_ble_eq_true rfl) rfl ?_
      refine jv_aload_n (jv_dk t_L_law_3 (k := 24) rfl) rfl rfl (Or.inr ⟨_, rfl⟩) ?_
      refine jv_callV (en' := jeI) (pv := jpI) (As := []) (S := []) (jv_dk t_L_law_4 (k := 0) rfl) (fun _ => rfl) (Or.inl lk_L_82) me_X13_thrown mv_X13_thrown ⟨by decide, by decide⟩ rfl rfl rfl (Nat.le_of_ble_eq_true rfl) (P_X13_thrown X x2 h400) (fun v401 h402 => ?_)
      show jv_O X M_L_law _ jeI 294 [some (.ref (jv_ad X 13)), some (.ref (x1)), some (.ref (x2)), some (.ref (x3)), some (.int (x4)), some (.int (v396)), some (.int (v399))] [.int (v401)] h402 _
      refine jv_iload (jv_dk t_L_law_4 (k := 1) rfl) rfl ?_
      refine jv_icmp_eq (tgt := 301) (jv_dk t_L_law_4 (k := 2) rfl) rfl (fun c403 => ?_) (fun c403 => ?_)
      · refine jv_iload (jv_dk t_L_law_4 (k := 5) rfl) rfl ?_
        refine jv_if_ne (tgt := 318) (jv_dk t_L_law_4 (k := 6) rfl) rfl (fun c404 => ?_) (fun c404 => ?_)
        · refine jv_goto (tgt := 1929) (jv_dk t_L_law_4 (k := 16) rfl) rfl ?_
          refine jv_iinc (v := 6) (L' := [some (.ref (jv_ad X 13)), some (.ref (x1)), some (.ref (x2)), some (.ref (x3)), some (.int (x4 + 6)), some (.int (v396)), some (.int (v399))]) (jv_dk t_L_law_48 (k := 3) rfl) rfl (by decide) rfl ?_
          refine jv_goto (tgt := 23) (jv_dk t_L_law_48 (k := 4) rfl) rfl ?_
          refine jv_le_row (jv_le_s (jv_le_s (jv_le_s (jv_le_s (jv_le_s (jv_le_n (jv_le_n (jv_le_nil)))))))) ?_
          exact hR23 _ _ _ _ _ 
        · show jv_O _ _ _ _ 306 _ _ _ _
          refine jv_aload_n (jv_dk t_L_law_4 (k := 7) rfl) rfl rfl (Or.inr ⟨_, rfl⟩) ?_
          refine jv_iconst (v := 0) (jv_dk t_L_law_4 (k := 8) rfl) (by decide) ?_
          refine jv_laload (jv_dk t_L_law_4 (k := 9) rfl) (fun v405 => ?_)
          refine jv_iload (jv_dk t_L_law_4 (k := 10) rfl) rfl ?_
          refine jv_i2l (jv_dk t_L_law_4 (k := 11) rfl) ?_
          refine jv_lcmp (jv_dk t_L_law_4 (k := 12) rfl) ?_
          refine jv_if_eq (tgt := 318) (jv_dk t_L_law_4 (k := 13) rfl) rfl (fun c406 => ?_) (fun c406 => ?_)
          · refine jv_goto (tgt := 1929) (jv_dk t_L_law_4 (k := 16) rfl) rfl ?_
            refine jv_iinc (v := 6) (L' := [some (.ref (jv_ad X 13)), some (.ref (x1)), some (.ref (x2)), some (.ref (x3)), some (.int (x4 + 6)), some (.int (v396)), some (.int (v399))]) (jv_dk t_L_law_48 (k := 3) rfl) rfl (by decide) rfl ?_
            refine jv_goto (tgt := 23) (jv_dk t_L_law_48 (k := 4) rfl) rfl ?_
            refine jv_le_row (jv_le_s (jv_le_s (jv_le_s (jv_le_s (jv_le_s (jv_le_n (jv_le_n (jv_le_nil)))))))) ?_
            exact hR23 _ _ _ _ _ 
          · show jv_O _ _ _ _ 316 _ _ _ _
            refine jv_iconst (v := 0) (jv_dk t_L_law_4 (k := 14) rfl) (by decide) ?_
            exact jv_iret (ty := .boolean) (jv_dk t_L_law_4 (k := 15) rfl) rfl rfl rfl
      · show jv_O _ _ _ _ 299 _ _ _ _
        refine jv_iconst (v := 0) (jv_dk t_L_law_4 (k := 3) rfl) (by decide) ?_
        exact jv_iret (ty := .boolean) (jv_dk t_L_law_4 (k := 4) rfl) rfl rfl rfl
    rw [if_neg c12]
    by_cases c13 : (v10 &&& 63) = 2
    · rw [if_pos c13]
      refine jv_tbl (tgt := 321) (jv_dk t_L_law_0 (k := 24) rfl) (by rw [c13] <;> decide) (by rw [c13] <;> decide) (by rw [c13] <;> rfl) rfl ?_
      refine jv_aload_n (jv_dk t_L_law_4 (k := 17) rfl) rfl rfl (Or.inr ⟨_, rfl⟩) ?_
      refine jv_callV (en' := jeI) (pv := jpI) (As := []) (S := []) (jv_dk t_L_law_4 (k := 18) rfl) (fun _ => rfl) (Or.inl lk_L_86) me_X12_fault mv_X12_fault ⟨by decide, by decide⟩ rfl rfl rfl (Nat.le_of_ble_eq_true rfl) (P_X12_fault X x1 h) (fun v390 h391 => ?_)
      show jv_O X M_L_law _ jeI 325 [some (.ref (jv_ad X 13)), some (.ref (x1)), some (.ref (x2)), some (.ref (x3)), some (.int (x4)), none, none] [.int (v390)] h391 _
      refine jv_aload_n (jv_dk t_L_law_4 (k := 19) rfl) rfl rfl (Or.inr ⟨_, rfl⟩) ?_
      refine jv_callV (en' := jeI) (pv := jpI) (As := []) (S := [.int (v390)]) (jv_dk t_L_law_4 (k := 20) rfl) (fun _ => rfl) (Or.inl lk_L_89) me_X13_fault mv_X13_fault ⟨by decide, by decide⟩ rfl rfl rfl (Nat.le_of_ble_eq_true rfl) (P_X13_fault X x2 h391) (fun v392 h393 => ?_)
      show jv_O X M_L_law _ jeI 329 [some (.ref (jv_ad X 13)), some (.ref (x1)), some (.ref (x2)), some (.ref (x3)), some (.int (x4)), none, none] [.int (v392), .int (v390)] h393 _
      refine jv_icmp_eq (tgt := 1929) (jv_dk t_L_law_4 (k := 21) rfl) rfl (fun c394 => ?_) (fun c394 => ?_)
      · refine jv_iinc (v := 6) (L' := [some (.ref (jv_ad X 13)), some (.ref (x1)), some (.ref (x2)), some (.ref (x3)), some (.int (x4 + 6)), none, none]) (jv_dk t_L_law_48 (k := 3) rfl) rfl (by decide) rfl ?_
        refine jv_goto (tgt := 23) (jv_dk t_L_law_48 (k := 4) rfl) rfl ?_
        exact hR23 _ _ _ _ _ 
      · show jv_O _ _ _ _ 332 _ _ _ _
        refine jv_iconst (v := 0) (jv_dk t_L_law_4 (k := 22) rfl) (by decide) ?_
        exact jv_iret (ty := .boolean) (jv_dk t_L_law_4 (k := 23) rfl) rfl rfl rfl
    rw [if_neg c13]
    by_cases c14 : (v10 &&& 63) = 3
    · rw [if_pos c14]
      refine jv_tbl (tgt := 334) (jv_dk t_L_law_0 (k := 24) rfl) (by rw [c14] <;> decide) (by rw [c14] <;> decide) (by rw [c14] <;> rfl) rfl ?_
      refine jv_aload_n (jv_dk t_L_law_4 (k := 24) rfl) rfl rfl (Or.inr ⟨_, rfl⟩) ?_
      refine jv_aload_n (jv_dk t_L_law_5 (k := 0) rfl) rfl rfl (Or.inr ⟨_, rfl⟩) ?_
      refine jv_iload (jv_dk t_L_law_5 (k := 1) rfl) rfl ?_
      refine jv_iconst (v := 1) (jv_dk t_L_law_5 (k := 2) rfl) (by decide) ?_
      refine jv_iadd (jv_dk t_L_law_5 (k := 3) rfl) ?_
      refine jv_xI (jv_dk t_L_law_5 (k := 4) rfl) (fun v378 => ?_)
      refine jv_aload_n (jv_dk t_L_law_5 (k := 5) rfl) rfl rfl (Or.inr ⟨_, rfl⟩) ?_
      refine jv_callH (en' := jeI) (pv := jpI) (As := [.ref (x1), .int (v378), .ref (x3)]) (S := []) (jv_dk t_L_law_5 (k := 6) rfl) (fun _ => rfl) lk_L_90 me_L_count ms_L_count ⟨by decide, by decide⟩ rfl rfl (Nat.le_of_ble_eq_true rfl) (P_L_count X x1 v378 x3 h) (fun v379 h380 => ?_)
      show jv_O X M_L_law _ jeI 345 [some (.ref (jv_ad X 13)), some (.ref (x1)), some (.ref (x2)), some (.ref (x3)), some (.int (x4)), none, none] [.int (v379)] h380 _
      refine jv_istore (L' := [some (.ref (jv_ad X 13)), some (.ref (x1)), some (.ref (x2)), some (.ref (x3)), some (.int (x4)), some (.int (v379)), none]) (jv_dk t_L_law_5 (k := 7) rfl) (Nat.le_of_ble_eq_true rfl) rfl ?_
      refine jv_aload_n (jv_dk t_L_law_5 (k := 8) rfl) rfl rfl (Or.inr ⟨_, rfl⟩) ?_
      refine jv_aload_n (jv_dk t_L_law_5 (k := 9) rfl) rfl rfl (Or.inr ⟨_, rfl⟩) ?_
      refine jv_iload (jv_dk t_L_law_5 (k := 10) rfl) rfl ?_
      refine jv_iconst (v := 1) (jv_dk t_L_law_5 (k := 11) rfl) (by decide) ?_
      refine jv_iadd (jv_dk t_L_law_5 (k := 12) rfl) ?_
      refine jv_xI (jv_dk t_L_law_5 (k := 13) rfl) (fun v381 => ?_)
      refine jv_callV (en' := jeI) (pv := jpI) (As := [.int (v381)]) (S := []) (jv_dk t_L_law_5 (k := 14) rfl) (fun _ => rfl) (Or.inl lk_L_92) me_X13_count mv_X13_count ⟨by decide, by decide⟩ rfl rfl rfl (Nat.le_of_ble_eq_true rfl) (P_X13_count X x2 v381 h380) (fun v382 h383 => ?_)
      show jv_O X M_L_law _ jeI 357 [some (.ref (jv_ad X 13)), some (.ref (x1)), some (.ref (x2)), some (.ref (x3)), some (.int (x4)), some (.int (v379)), none] [.int (v382)] h383 _
      refine jv_istore (L' := [some (.ref (jv_ad X 13)), some (.ref (x1)), some (.ref (x2)), some (.ref (x3)), some (.int (x4)), some (.int (v379)), some (.int (v382))]) (jv_dk t_L_law_5 (k := 15) rfl) (Nat.le_of_ble_eq_true rfl) rfl ?_
      refine jv_aload_n (jv_dk t_L_law_5 (k := 16) rfl) rfl rfl (Or.inr ⟨_, rfl⟩) ?_
      refine jv_callV (en' := jeI) (pv := jpI) (As := []) (S := []) (jv_dk t_L_law_5 (k := 17) rfl) (fun _ => rfl) (Or.inl lk_L_82) me_X13_thrown mv_X13_thrown ⟨by decide, by decide⟩ rfl rfl rfl (Nat.le_of_ble_eq_true rfl) (P_X13_thrown X x2 h383) (fun v384 h385 => ?_)
      show jv_O X M_L_law _ jeI 363 [some (.ref (jv_ad X 13)), some (.ref (x1)), some (.ref (x2)), some (.ref (x3)), some (.int (x4)), some (.int (v379)), some (.int (v382))] [.int (v384)] h385 _
      refine jv_iload (jv_dk t_L_law_5 (k := 18) rfl) rfl ?_
      refine jv_icmp_eq (tgt := 370) (jv_dk t_L_law_5 (k := 19) rfl) rfl (fun c386 => ?_) (fun c386 => ?_)
      · refine jv_iload (jv_dk t_L_law_5 (k := 22) rfl) rfl ?_
        refine jv_if_ne (tgt := 387) (jv_dk t_L_law_5 (k := 23) rfl) rfl (fun c387 => ?_) (fun c387 => ?_)
        · refine jv_goto (tgt := 1929) (jv_dk t_L_law_6 (k := 8) rfl) rfl ?_
          refine jv_iinc (v := 6) (L' := [some (.ref (jv_ad X 13)), some (.ref (x1)), some (.ref (x2)), some (.ref (x3)), some (.int (x4 + 6)), some (.int (v379)), some (.int (v382))]) (jv_dk t_L_law_48 (k := 3) rfl) rfl (by decide) rfl ?_
          refine jv_goto (tgt := 23) (jv_dk t_L_law_48 (k := 4) rfl) rfl ?_
          refine jv_le_row (jv_le_s (jv_le_s (jv_le_s (jv_le_s (jv_le_s (jv_le_n (jv_le_n (jv_le_nil)))))))) ?_
          exact hR23 _ _ _ _ _ 
        · show jv_O _ _ _ _ 375 _ _ _ _
          refine jv_aload_n (jv_dk t_L_law_5 (k := 24) rfl) rfl rfl (Or.inr ⟨_, rfl⟩) ?_
          refine jv_iconst (v := 0) (jv_dk t_L_law_6 (k := 0) rfl) (by decide) ?_
          refine jv_laload (jv_dk t_L_law_6 (k := 1) rfl) (fun v388 => ?_)
          refine jv_iload (jv_dk t_L_law_6 (k := 2) rfl) rfl ?_
          refine jv_i2l (jv_dk t_L_law_6 (k := 3) rfl) ?_
          refine jv_lcmp (jv_dk t_L_law_6 (k := 4) rfl) ?_
          refine jv_if_eq (tgt := 387) (jv_dk t_L_law_6 (k := 5) rfl) rfl (fun c389 => ?_) (fun c389 => ?_)
          · refine jv_goto (tgt := 1929) (jv_dk t_L_law_6 (k := 8) rfl) rfl ?_
            refine jv_iinc (v := 6) (L' := [some (.ref (jv_ad X 13)), some (.ref (x1)), some (.ref (x2)), some (.ref (x3)), some (.int (x4 + 6)), some (.int (v379)), some (.int (v382))]) (jv_dk t_L_law_48 (k := 3) rfl) rfl (by decide) rfl ?_
            refine jv_goto (tgt := 23) (jv_dk t_L_law_48 (k := 4) rfl) rfl ?_
            refine jv_le_row (jv_le_s (jv_le_s (jv_le_s (jv_le_s (jv_le_s (jv_le_n (jv_le_n (jv_le_nil)))))))) ?_
            exact hR23 _ _ _ _ _ 
          · show jv_O _ _ _ _ 385 _ _ _ _
            refine jv_iconst (v := 0) (jv_dk t_L_law_6 (k := 6) rfl) (by decide) ?_
            exact jv_iret (ty := .boolean) (jv_dk t_L_law_6 (k := 7) rfl) rfl rfl rfl
      · show jv_O _ _ _ _ 368 _ _ _ _
        refine jv_iconst (v := 0) (jv_dk t_L_law_5 (k := 20) rfl) (by decide) ?_
        exact jv_iret (ty := .boolean) (jv_dk t_L_law_5 (k := 21) rfl) rfl rfl rfl
    rw [if_neg c14]
    by_cases c15 : (v10 &&& 63) = 4
    · rw [if_pos c15]
      refine jv_tbl (tgt := 390) (jv_dk t_L_law_0 (k := 24) rfl) (by rw [c15] <;> decide) (by rw [c15] <;> decide) (by rw [c15] <;> rfl) rfl ?_
      refine jv_aload_n (jv_dk t_L_law_6 (k := 9) rfl) rfl rfl (Or.inr ⟨_, rfl⟩) ?_
      refine jv_aload_n (jv_dk t_L_law_6 (k := 10) rfl) rfl rfl (Or.inr ⟨_, rfl⟩) ?_
      refine jv_iload (jv_dk t_L_law_6 (k := 11) rfl) rfl ?_
      refine jv_iconst (v := 1) (jv_dk t_L_law_6 (k := 12) rfl) (by decide) ?_
      refine jv_iadd (jv_dk t_L_law_6 (k := 13) rfl) ?_
      refine jv_xI (jv_dk t_L_law_6 (k := 14) rfl) (fun v364 => ?_)
      refine jv_aload_n (jv_dk t_L_law_6 (k := 15) rfl) rfl rfl (Or.inr ⟨_, rfl⟩) ?_
      refine jv_iload (jv_dk t_L_law_6 (k := 16) rfl) rfl ?_
      refine jv_iconst (v := 2) (jv_dk t_L_law_6 (k := 17) rfl) (by decide) ?_
      refine jv_iadd (jv_dk t_L_law_6 (k := 18) rfl) ?_
      refine jv_xI (jv_dk t_L_law_6 (k := 19) rfl) (fun v365 => ?_)
      refine jv_aload_n (jv_dk t_L_law_6 (k := 20) rfl) rfl rfl (Or.inr ⟨_, rfl⟩) ?_
      refine jv_callH (en' := jeI) (pv := jpI) (As := [.ref (x1), .int (v364), .int (v365), .ref (x3)]) (S := []) (jv_dk t_L_law_6 (k := 21) rfl) (fun _ => rfl) lk_L_93 me_L_process ms_L_process ⟨by decide, by decide⟩ rfl rfl (Nat.le_of_ble_eq_true rfl) (P_L_process X x1 v364 v365 x3 h) (fun v366 h367 => ?_)
      show jv_O X M_L_law _ jeI 407 [some (.ref (jv_ad X 13)), some (.ref (x1)), some (.ref (x2)), some (.ref (x3)), some (.int (x4)), none, none] [.int (v366)] h367 _
      refine jv_istore (L' := [some (.ref (jv_ad X 13)), some (.ref (x1)), some (.ref (x2)), some (.ref (x3)), some (.int (x4)), some (.int (v366)), none]) (jv_dk t_L_law_6 (k := 22) rfl) (Nat.le_of_ble_eq_true rfl) rfl ?_
      refine jv_aload_n (jv_dk t_L_law_6 (k := 23) rfl) rfl rfl (Or.inr ⟨_, rfl⟩) ?_
      refine jv_aload_n (jv_dk t_L_law_6 (k := 24) rfl) rfl rfl (Or.inr ⟨_, rfl⟩) ?_
      refine jv_iload (jv_dk t_L_law_7 (k := 0) rfl) rfl ?_
      refine jv_iconst (v := 1) (jv_dk t_L_law_7 (k := 1) rfl) (by decide) ?_
      refine jv_iadd (jv_dk t_L_law_7 (k := 2) rfl) ?_
      refine jv_xI (jv_dk t_L_law_7 (k := 3) rfl) (fun v368 => ?_)
      refine jv_aload_n (jv_dk t_L_law_7 (k := 4) rfl) rfl rfl (Or.inr ⟨_, rfl⟩) ?_
      refine jv_iload (jv_dk t_L_law_7 (k := 5) rfl) rfl ?_
      refine jv_iconst (v := 2) (jv_dk t_L_law_7 (k := 6) rfl) (by decide) ?_
      refine jv_iadd (jv_dk t_L_law_7 (k := 7) rfl) ?_
      refine jv_xI (jv_dk t_L_law_7 (k := 8) rfl) (fun v369 => ?_)
      refine jv_callV (en' := jeI) (pv := jpI) (As := [.int (v368), .int (v369)]) (S := []) (jv_dk t_L_law_7 (k := 9) rfl) (fun _ => rfl) (Or.inl lk_L_96) me_X13_process mv_X13_process ⟨by decide, by decide⟩ rfl rfl rfl (Nat.le_of_ble_eq_true rfl) (P_X13_process X x2 v368 v369 h367) (fun v370 h371 => ?_)
      show jv_O X M_L_law _ jeI 425 [some (.ref (jv_ad X 13)), some (.ref (x1)), some (.ref (x2)), some (.ref (x3)), some (.int (x4)), some (.int (v366)), none] [.int (v370)] h371 _
      refine jv_istore (L' := [some (.ref (jv_ad X 13)), some (.ref (x1)), some (.ref (x2)), some (.ref (x3)), some (.int (x4)), some (.int (v366)), some (.int (v370))]) (jv_dk t_L_law_7 (k := 10) rfl) (Nat.le_of_ble_eq_true rfl) rfl ?_
      refine jv_aload_n (jv_dk t_L_law_7 (k := 11) rfl) rfl rfl (Or.inr ⟨_, rfl⟩) ?_
      refine jv_callV (en' := jeI) (pv := jpI) (As := []) (S := []) (jv_dk t_L_law_7 (k := 12) rfl) (fun _ => rfl) (Or.inl lk_L_82) me_X13_thrown mv_X13_thrown ⟨by decide, by decide⟩ rfl rfl rfl (Nat.le_of_ble_eq_true rfl) (P_X13_thrown X x2 h371) (fun v372 h373 => ?_)
      show jv_O X M_L_law _ jeI 431 [some (.ref (jv_ad X 13)), some (.ref (x1)), some (.ref (x2)), some (.ref (x3)), some (.int (x4)), some (.int (v366)), some (.int (v370))] [.int (v372)] h373 _
      refine jv_iload (jv_dk t_L_law_7 (k := 13) rfl) rfl ?_
      refine jv_icmp_eq (tgt := 438) (jv_dk t_L_law_7 (k := 14) rfl) rfl (fun c374 => ?_) (fun c374 => ?_)
      · refine jv_iload (jv_dk t_L_law_7 (k := 17) rfl) rfl ?_
        refine jv_if_ne (tgt := 455) (jv_dk t_L_law_7 (k := 18) rfl) rfl (fun c375 => ?_) (fun c375 => ?_)
        · refine jv_goto (tgt := 1929) (jv_dk t_L_law_8 (k := 3) rfl) rfl ?_
          refine jv_iinc (v := 6) (L' := [some (.ref (jv_ad X 13)), some (.ref (x1)), some (.ref (x2)), some (.ref (x3)), some (.int (x4 + 6)), some (.int (v366)), some (.int (v370))]) (jv_dk t_L_law_48 (k := 3) rfl) rfl (by decide) rfl ?_
          refine jv_goto (tgt := 23) (jv_dk t_L_law_48 (k := 4) rfl) rfl ?_
          refine jv_le_row (jv_le_s (jv_le_s (jv_le_s (jv_le_s (jv_le_s (jv_le_n (jv_le_n (jv_le_nil)))))))) ?_
          exact hR23 _ _ _ _ _ 
        · show jv_O _ _ _ _ 443 _ _ _ _
          refine jv_aload_n (jv_dk t_L_law_7 (k := 19) rfl) rfl rfl (Or.inr ⟨_, rfl⟩) ?_
          refine jv_iconst (v := 0) (jv_dk t_L_law_7 (k := 20) rfl) (by decide) ?_
          refine jv_laload (jv_dk t_L_law_7 (k := 21) rfl) (fun v376 => ?_)
          refine jv_iload (jv_dk t_L_law_7 (k := 22) rfl) rfl ?_
          refine jv_i2l (jv_dk t_L_law_7 (k := 23) rfl) ?_
          refine jv_lcmp (jv_dk t_L_law_7 (k := 24) rfl) ?_
          refine jv_if_eq (tgt := 455) (jv_dk t_L_law_8 (k := 0) rfl) rfl (fun c377 => ?_) (fun c377 => ?_)
          · refine jv_goto (tgt := 1929) (jv_dk t_L_law_8 (k := 3) rfl) rfl ?_
            refine jv_iinc (v := 6) (L' := [some (.ref (jv_ad X 13)), some (.ref (x1)), some (.ref (x2)), some (.ref (x3)), some (.int (x4 + 6)), some (.int (v366)), some (.int (v370))]) (jv_dk t_L_law_48 (k := 3) rfl) rfl (by decide) rfl ?_
            refine jv_goto (tgt := 23) (jv_dk t_L_law_48 (k := 4) rfl) rfl ?_
            refine jv_le_row (jv_le_s (jv_le_s (jv_le_s (jv_le_s (jv_le_s (jv_le_n (jv_le_n (jv_le_nil)))))))) ?_
            exact hR23 _ _ _ _ _ 
          · show jv_O _ _ _ _ 453 _ _ _ _
            refine jv_iconst (v := 0) (jv_dk t_L_law_8 (k := 1) rfl) (by decide) ?_
            exact jv_iret (ty := .boolean) (jv_dk t_L_law_8 (k := 2) rfl) rfl rfl rfl
      · show jv_O _ _ _ _ 436 _ _ _ _
        refine jv_iconst (v := 0) (jv_dk t_L_law_7 (k := 15) rfl) (by decide) ?_
        exact jv_iret (ty := .boolean) (jv_dk t_L_law_7 (k := 16) rfl) rfl rfl rfl
    rw [if_neg c15]
    by_cases c16 : (v10 &&& 63) = 5
    · rw [if_pos c16]
      refine jv_tbl (tgt := 458) (jv_dk t_L_law_0 (k := 24) rfl) (by rw [c16] <;> decide) (by rw [c16] <;> decide) (by rw [c16] <;> rfl) rfl ?_
      refine jv_aload_n (jv_dk t_L_law_8 (k := 4) rfl) rfl rfl (Or.inr ⟨_, rfl⟩) ?_
      refine jv_aload_n (jv_dk t_L_law_8 (k := 5) rfl) rfl rfl (Or.inr ⟨_, rfl⟩) ?_
      refine jv_iload (jv_dk t_L_law_8 (k := 6) rfl) rfl ?_
      refine jv_iconst (v := 1) (jv_dk t_L_law_8 (k := 7) rfl) (by decide) ?_
      refine jv_iadd (jv_dk t_L_law_8 (k := 8) rfl) ?_
      refine jv_xI (jv_dk t_L_law_8 (k := 9) rfl) (fun v348 => ?_)
      refine jv_aload_n (jv_dk t_L_law_8 (k := 10) rfl) rfl rfl (Or.inr ⟨_, rfl⟩) ?_
      refine jv_iload (jv_dk t_L_law_8 (k := 11) rfl) rfl ?_
      refine jv_iconst (v := 2) (jv_dk t_L_law_8 (k := 12) rfl) (by decide) ?_
      refine jv_iadd (jv_dk t_L_law_8 (k := 13) rfl) ?_
      refine jv_xI (jv_dk t_L_law_8 (k := 14) rfl) (fun v349 => ?_)
      refine jv_aload_n (jv_dk t_L_law_8 (k := 15) rfl) rfl rfl (Or.inr ⟨_, rfl⟩) ?_
      refine jv_iload (jv_dk t_L_law_8 (k := 16) rfl) rfl ?_
      refine jv_iconst (v := 3) (jv_dk t_L_law_8 (k := 17) rfl) (by decide) ?_
      refine jv_iadd (jv_dk t_L_law_8 (k := 18) rfl) ?_
      refine jv_xI (jv_dk t_L_law_8 (k := 19) rfl) (fun v350 => ?_)
      refine jv_aload_n (jv_dk t_L_law_8 (k := 20) rfl) rfl rfl (Or.inr ⟨_, rfl⟩) ?_
      refine jv_callH (en' := jeI) (pv := jpI) (As := [.ref (x1), .int (v348), .int (v349), .int (v350), .ref (x3)]) (S := []) (jv_dk t_L_law_8 (k := 21) rfl) (fun _ => rfl) lk_L_97 me_L_space ms_L_space ⟨by decide, by decide⟩ rfl rfl (Nat.le_of_ble_eq_true rfl) (P_L_space X x1 v348 v349 v350 x3 h) (fun v351 h352 => ?_)
      show jv_O X M_L_law _ jeI 481 [some (.ref (jv_ad X 13)), some (.ref (x1)), some (.ref (x2)), some (.ref (x3)), some (.int (x4)), none, none] [.int (v351)] h352 _
      refine jv_istore (L' := [some (.ref (jv_ad X 13)), some (.ref (x1)), some (.ref (x2)), some (.ref (x3)), some (.int (x4)), some (.int (v351)), none]) (jv_dk t_L_law_8 (k := 22) rfl) (Nat.le_of_ble_eq_true rfl) rfl ?_
      refine jv_aload_n (jv_dk t_L_law_8 (k := 23) rfl) rfl rfl (Or.inr ⟨_, rfl⟩) ?_
      refine jv_aload_n (jv_dk t_L_law_8 (k := 24) rfl) rfl rfl (Or.inr ⟨_, rfl⟩) ?_
      refine jv_iload (jv_dk t_L_law_9 (k := 0) rfl) rfl ?_
      refine jv_iconst (v := 1) (jv_dk t_L_law_9 (k := 1) rfl) (by decide) ?_
      refine jv_iadd (jv_dk t_L_law_9 (k := 2) rfl) ?_
      refine jv_xI (jv_dk t_L_law_9 (k := 3) rfl) (fun v353 => ?_)
      refine jv_aload_n (jv_dk t_L_law_9 (k := 4) rfl) rfl rfl (Or.inr ⟨_, rfl⟩) ?_
      refine jv_iload (jv_dk t_L_law_9 (k := 5) rfl) rfl ?_
      refine jv_iconst (v := 2) (jv_dk t_L_law_9 (k := 6) rfl) (by decide) ?_
      refine jv_iadd (jv_dk t_L_law_9 (k := 7) rfl) ?_
      refine jv_xI (jv_dk t_L_law_9 (k := 8) rfl) (fun v354 => ?_)
      refine jv_aload_n (jv_dk t_L_law_9 (k := 9) rfl) rfl rfl (Or.inr ⟨_, rfl⟩) ?_
      refine jv_iload (jv_dk t_L_law_9 (k := 10) rfl) rfl ?_
      refine jv_iconst (v := 3) (jv_dk t_L_law_9 (k := 11) rfl) (by decide) ?_
      refine jv_iadd (jv_dk t_L_law_9 (k := 12) rfl) ?_
      refine jv_xI (jv_dk t_L_law_9 (k := 13) rfl) (fun v355 => ?_)
      refine jv_callV (en' := jeI) (pv := jpI) (As := [.int (v353), .int (v354), .int (v355)]) (S := []) (jv_dk t_L_law_9 (k := 14) rfl) (fun _ => rfl) (Or.inl lk_L_100) me_X13_space mv_X13_space ⟨by decide, by decide⟩ rfl rfl rfl (Nat.le_of_ble_eq_true rfl) (P_X13_space X x2 v353 v354 v355 h352) (fun v356 h357 => ?_)
      show jv_O X M_L_law _ jeI 505 [some (.ref (jv_ad X 13)), some (.ref (x1)), some (.ref (x2)), some (.ref (x3)), some (.int (x4)), some (.int (v351)), none] [.int (v356)] h357 _
      refine jv_istore (L' := [some (.ref (jv_ad X 13)), some (.ref (x1)), some (.ref (x2)), some (.ref (x3)), some (.int (x4)), some (.int (v351)), some (.int (v356))]) (jv_dk t_L_law_9 (k := 15) rfl) (Nat.le_of_ble_eq_true rfl) rfl ?_
      refine jv_aload_n (jv_dk t_L_law_9 (k := 16) rfl) rfl rfl (Or.inr ⟨_, rfl⟩) ?_
      refine jv_callV (en' := jeI) (pv := jpI) (As := []) (S := []) (jv_dk t_L_law_9 (k := 17) rfl) (fun _ => rfl) (Or.inl lk_L_82) me_X13_thrown mv_X13_thrown ⟨by decide, by decide⟩ rfl rfl rfl (Nat.le_of_ble_eq_true rfl) (P_X13_thrown X x2 h357) (fun v358 h359 => ?_)
      show jv_O X M_L_law _ jeI 511 [some (.ref (jv_ad X 13)), some (.ref (x1)), some (.ref (x2)), some (.ref (x3)), some (.int (x4)), some (.int (v351)), some (.int (v356))] [.int (v358)] h359 _
      refine jv_iload (jv_dk t_L_law_9 (k := 18) rfl) rfl ?_
      refine jv_icmp_eq (tgt := 518) (jv_dk t_L_law_9 (k := 19) rfl) rfl (fun c360 => ?_) (fun c360 => ?_)
      · refine jv_iload (jv_dk t_L_law_9 (k := 22) rfl) rfl ?_
        refine jv_if_ne (tgt := 535) (jv_dk t_L_law_9 (k := 23) rfl) rfl (fun c361 => ?_) (fun c361 => ?_)
        · refine jv_goto (tgt := 1929) (jv_dk t_L_law_10 (k := 8) rfl) rfl ?_
          refine jv_iinc (v := 6) (L' := [some (.ref (jv_ad X 13)), some (.ref (x1)), some (.ref (x2)), some (.ref (x3)), some (.int (x4 + 6)), some (.int (v351)), some (.int (v356))]) (jv_dk t_L_law_48 (k := 3) rfl) rfl (by decide) rfl ?_
          refine jv_goto (tgt := 23) (jv_dk t_L_law_48 (k := 4) rfl) rfl ?_
          refine jv_le_row (jv_le_s (jv_le_s (jv_le_s (jv_le_s (jv_le_s (jv_le_n (jv_le_n (jv_le_nil)))))))) ?_
          exact hR23 _ _ _ _ _ 
        · show jv_O _ _ _ _ 523 _ _ _ _
          refine jv_aload_n (jv_dk t_L_law_9 (k := 24) rfl) rfl rfl (Or.inr ⟨_, rfl⟩) ?_
          refine jv_iconst (v := 0) (jv_dk t_L_law_10 (k := 0) rfl) (by decide) ?_
          refine jv_laload (jv_dk t_L_law_10 (k := 1) rfl) (fun v362 => ?_)
          refine jv_iload (jv_dk t_L_law_10 (k := 2) rfl) rfl ?_
          refine jv_i2l (jv_dk t_L_law_10 (k := 3) rfl) ?_
          refine jv_lcmp (jv_dk t_L_law_10 (k := 4) rfl) ?_
          refine jv_if_eq (tgt := 535) (jv_dk t_L_law_10 (k := 5) rfl) rfl (fun c363 => ?_) (fun c363 => ?_)
          · refine jv_goto (tgt := 1929) (jv_dk t_L_law_10 (k := 8) rfl) rfl ?_
            refine jv_iinc (v := 6) (L' := [some (.ref (jv_ad X 13)), some (.ref (x1)), some (.ref (x2)), some (.ref (x3)), some (.int (x4 + 6)), some (.int (v351)), some (.int (v356))]) (jv_dk t_L_law_48 (k := 3) rfl) rfl (by decide) rfl ?_
            refine jv_goto (tgt := 23) (jv_dk t_L_law_48 (k := 4) rfl) rfl ?_
            refine jv_le_row (jv_le_s (jv_le_s (jv_le_s (jv_le_s (jv_le_s (jv_le_n (jv_le_n (jv_le_nil)))))))) ?_
            exact hR23 _ _ _ _ _ 
          · show jv_O _ _ _ _ 533 _ _ _ _
            refine jv_iconst (v := 0) (jv_dk t_L_law_10 (k := 6) rfl) (by decide) ?_
            exact jv_iret (ty := .boolean) (jv_dk t_L_law_10 (k := 7) rfl) rfl rfl rfl
      · show jv_O _ _ _ _ 516 _ _ _ _
        refine jv_iconst (v := 0) (jv_dk t_L_law_9 (k := 20) rfl) (by decide) ?_
        exact jv_iret (ty := .boolean) (jv_dk t_L_law_9 (k := 21) rfl) rfl rfl rfl
    rw [if_neg c16]
    by_cases c17 : (v10 &&& 63) = 6
    · rw [if_pos c17]
      refine jv_tbl (tgt := 538) (jv_dk t_L_law_0 (k := 24) rfl) (by rw [c17] <;> decide) (by rw [c17] <;> decide) (by rw [c17] <;> rfl) rfl ?_
      refine jv_aload_n (jv_dk t_L_law_10 (k := 9) rfl) rfl rfl (Or.inr ⟨_, rfl⟩) ?_
      refine jv_aload_n (jv_dk t_L_law_10 (k := 10) rfl) rfl rfl (Or.inr ⟨_, rfl⟩) ?_
      refine jv_iload (jv_dk t_L_law_10 (k := 11) rfl) rfl ?_
      refine jv_iconst (v := 1) (jv_dk t_L_law_10 (k := 12) rfl) (by decide) ?_
      refine jv_iadd (jv_dk t_L_law_10 (k := 13) rfl) ?_
      refine jv_xI (jv_dk t_L_law_10 (k := 14) rfl) (fun v334 => ?_)
      refine jv_aload_n (jv_dk t_L_law_10 (k := 15) rfl) rfl rfl (Or.inr ⟨_, rfl⟩) ?_
      refine jv_iload (jv_dk t_L_law_10 (k := 16) rfl) rfl ?_
      refine jv_iconst (v := 2) (jv_dk t_L_law_10 (k := 17) rfl) (by decide) ?_
      refine jv_iadd (jv_dk t_L_law_10 (k := 18) rfl) ?_
      refine jv_xI (jv_dk t_L_law_10 (k := 19) rfl) (fun v335 => ?_)
      refine jv_aload_n (jv_dk t_L_law_10 (k := 20) rfl) rfl rfl (Or.inr ⟨_, rfl⟩) ?_
      refine jv_callH (en' := jeI) (pv := jpI) (As := [.ref (x1), .int (v334), .int (v335), .ref (x3)]) (S := []) (jv_dk t_L_law_10 (k := 21) rfl) (fun _ => rfl) lk_L_101 me_L_number ms_L_number ⟨by decide, by decide⟩ rfl rfl (Nat.le_of_ble_eq_true rfl) (P_L_number X x1 v334 v335 x3 h) (fun v336 h337 => ?_)
      show jv_O X M_L_law _ jeI 555 [some (.ref (jv_ad X 13)), some (.ref (x1)), some (.ref (x2)), some (.ref (x3)), some (.int (x4)), none, none] [.int (v336)] h337 _
      refine jv_istore (L' := [some (.ref (jv_ad X 13)), some (.ref (x1)), some (.ref (x2)), some (.ref (x3)), some (.int (x4)), some (.int (v336)), none]) (jv_dk t_L_law_10 (k := 22) rfl) (Nat.le_of_ble_eq_true rfl) rfl ?_
      refine jv_aload_n (jv_dk t_L_law_10 (k := 23) rfl) rfl rfl (Or.inr ⟨_, rfl⟩) ?_
      refine jv_aload_n (jv_dk t_L_law_10 (k := 24) rfl) rfl rfl (Or.inr ⟨_, rfl⟩) ?_
      refine jv_iload (jv_dk t_L_law_11 (k := 0) rfl) rfl ?_
      refine jv_iconst (v := 1) (jv_dk t_L_law_11 (k := 1) rfl) (by decide) ?_
      refine jv_iadd (jv_dk t_L_law_11 (k := 2) rfl) ?_
      refine jv_xI (jv_dk t_L_law_11 (k := 3) rfl) (fun v338 => ?_)
      refine jv_aload_n (jv_dk t_L_law_11 (k := 4) rfl) rfl rfl (Or.inr ⟨_, rfl⟩) ?_
      refine jv_iload (jv_dk t_L_law_11 (k := 5) rfl) rfl ?_
      refine jv_iconst (v := 2) (jv_dk t_L_law_11 (k := 6) rfl) (by decide) ?_
      refine jv_iadd (jv_dk t_L_law_11 (k := 7) rfl) ?_
      refine jv_xI (jv_dk t_L_law_11 (k := 8) rfl) (fun v339 => ?_)
      refine jv_callV (en' := jeI) (pv := jpI) (As := [.int (v338), .int (v339)]) (S := []) (jv_dk t_L_law_11 (k := 9) rfl) (fun _ => rfl) (Or.inl lk_L_103) me_X13_number mv_X13_number ⟨by decide, by decide⟩ rfl rfl rfl (Nat.le_of_ble_eq_true rfl) (P_X13_number X x2 v338 v339 h337) (fun v340 h341 => ?_)
      show jv_O X M_L_law _ jeI 573 [some (.ref (jv_ad X 13)), some (.ref (x1)), some (.ref (x2)), some (.ref (x3)), some (.int (x4)), some (.int (v336)), none] [.int (v340)] h341 _
      refine jv_istore (L' := [some (.ref (jv_ad X 13)), some (.ref (x1)), some (.ref (x2)), some (.ref (x3)), some (.int (x4)), some (.int (v336)), some (.int (v340))]) (jv_dk t_L_law_11 (k := 10) rfl) (Nat.le_of_ble_eq_true rfl) rfl ?_
      refine jv_aload_n (jv_dk t_L_law_11 (k := 11) rfl) rfl rfl (Or.inr ⟨_, rfl⟩) ?_
      refine jv_callV (en' := jeI) (pv := jpI) (As := []) (S := []) (jv_dk t_L_law_11 (k := 12) rfl) (fun _ => rfl) (Or.inl lk_L_82) me_X13_thrown mv_X13_thrown ⟨by decide, by decide⟩ rfl rfl rfl (Nat.le_of_ble_eq_true rfl) (P_X13_thrown X x2 h341) (fun v342 h343 => ?_)
      show jv_O X M_L_law _ jeI 579 [some (.ref (jv_ad X 13)), some (.ref (x1)), some (.ref (x2)), some (.ref (x3)), some (.int (x4)), some (.int (v336)), some (.int (v340))] [.int (v342)] h343 _
      refine jv_iload (jv_dk t_L_law_11 (k := 13) rfl) rfl ?_
      refine jv_icmp_eq (tgt := 586) (jv_dk t_L_law_11 (k := 14) rfl) rfl (fun c344 => ?_) (fun c344 => ?_)
      · refine jv_iload (jv_dk t_L_law_11 (k := 17) rfl) rfl ?_
        refine jv_if_ne (tgt := 603) (jv_dk t_L_law_11 (k := 18) rfl) rfl (fun c345 => ?_) (fun c345 => ?_)
        · refine jv_goto (tgt := 1929) (jv_dk t_L_law_12 (k := 3) rfl) rfl ?_
          refine jv_iinc (v := 6) (L' := [some (.ref (jv_ad X 13)), some (.ref (x1)), some (.ref (x2)), some (.ref (x3)), some (.int (x4 + 6)), some (.int (v336)), some (.int (v340))]) (jv_dk t_L_law_48 (k := 3) rfl) rfl (by decide) rfl ?_
          refine jv_goto (tgt := 23) (jv_dk t_L_law_48 (k := 4) rfl) rfl ?_
          refine jv_le_row (jv_le_s (jv_le_s (jv_le_s (jv_le_s (jv_le_s (jv_le_n (jv_le_n (jv_le_nil)))))))) ?_
          exact hR23 _ _ _ _ _ 
        · show jv_O _ _ _ _ 591 _ _ _ _
          refine jv_aload_n (jv_dk t_L_law_11 (k := 19) rfl) rfl rfl (Or.inr ⟨_, rfl⟩) ?_
          refine jv_iconst (v := 0) (jv_dk t_L_law_11 (k := 20) rfl) (by decide) ?_
          refine jv_laload (jv_dk t_L_law_11 (k := 21) rfl) (fun v346 => ?_)
          refine jv_iload (jv_dk t_L_law_11 (k := 22) rfl) rfl ?_
          refine jv_i2l (jv_dk t_L_law_11 (k := 23) rfl) ?_
          refine jv_lcmp (jv_dk t_L_law_11 (k := 24) rfl) ?_
          refine jv_if_eq (tgt := 603) (jv_dk t_L_law_12 (k := 0) rfl) rfl (fun c347 => ?_) (fun c347 => ?_)
          · refine jv_goto (tgt := 1929) (jv_dk t_L_law_12 (k := 3) rfl) rfl ?_
            refine jv_iinc (v := 6) (L' := [some (.ref (jv_ad X 13)), some (.ref (x1)), some (.ref (x2)), some (.ref (x3)), some (.int (x4 + 6)), some (.int (v336)), some (.int (v340))]) (jv_dk t_L_law_48 (k := 3) rfl) rfl (by decide) rfl ?_
            refine jv_goto (tgt := 23) (jv_dk t_L_law_48 (k := 4) rfl) rfl ?_
            refine jv_le_row (jv_le_s (jv_le_s (jv_le_s (jv_le_s (jv_le_s (jv_le_n (jv_le_n (jv_le_nil)))))))) ?_
            exact hR23 _ _ _ _ _ 
          · show jv_O _ _ _ _ 601 _ _ _ _
            refine jv_iconst (v := 0) (jv_dk t_L_law_12 (k := 1) rfl) (by decide) ?_
            exact jv_iret (ty := .boolean) (jv_dk t_L_law_12 (k := 2) rfl) rfl rfl rfl
      · show jv_O _ _ _ _ 584 _ _ _ _
        refine jv_iconst (v := 0) (jv_dk t_L_law_11 (k := 15) rfl) (by decide) ?_
        exact jv_iret (ty := .boolean) (jv_dk t_L_law_11 (k := 16) rfl) rfl rfl rfl
    rw [if_neg c17]
    by_cases c18 : (v10 &&& 63) = 7
    · rw [if_pos c18]
      refine jv_tbl (tgt := 606) (jv_dk t_L_law_0 (k := 24) rfl) (by rw [c18] <;> decide) (by rw [c18] <;> decide) (by rw [c18] <;> rfl) rfl ?_
      refine jv_aload_n (jv_dk t_L_law_12 (k := 4) rfl) rfl rfl (Or.inr ⟨_, rfl⟩) ?_
      refine jv_aload_n (jv_dk t_L_law_12 (k := 5) rfl) rfl rfl (Or.inr ⟨_, rfl⟩) ?_
      refine jv_iload (jv_dk t_L_law_12 (k := 6) rfl) rfl ?_
      refine jv_iconst (v := 1) (jv_dk t_L_law_12 (k := 7) rfl) (by decide) ?_
      refine jv_iadd (jv_dk t_L_law_12 (k := 8) rfl) ?_
      refine jv_xI (jv_dk t_L_law_12 (k := 9) rfl) (fun v320 => ?_)
      refine jv_aload_n (jv_dk t_L_law_12 (k := 10) rfl) rfl rfl (Or.inr ⟨_, rfl⟩) ?_
      refine jv_iload (jv_dk t_L_law_12 (k := 11) rfl) rfl ?_
      refine jv_iconst (v := 2) (jv_dk t_L_law_12 (k := 12) rfl) (by decide) ?_
      refine jv_iadd (jv_dk t_L_law_12 (k := 13) rfl) ?_
      refine jv_xI (jv_dk t_L_law_12 (k := 14) rfl) (fun v321 => ?_)
      refine jv_aload_n (jv_dk t_L_law_12 (k := 15) rfl) rfl rfl (Or.inr ⟨_, rfl⟩) ?_
      refine jv_callH (en' := jeI) (pv := jpI) (As := [.ref (x1), .int (v320), .int (v321), .ref (x3)]) (S := []) (jv_dk t_L_law_12 (k := 16) rfl) (fun _ => rfl) lk_L_104 me_L_listed ms_L_listed ⟨by decide, by decide⟩ rfl rfl (Nat.le_of_ble_eq_true rfl) (P_L_listed X x1 v320 v321 x3 h) (fun v322 h323 => ?_)
      show jv_O X M_L_law _ jeI 623 [some (.ref (jv_ad X 13)), some (.ref (x1)), some (.ref (x2)), some (.ref (x3)), some (.int (x4)), none, none] [.int (v322)] h323 _
      refine jv_istore (L' := [some (.ref (jv_ad X 13)), some (.ref (x1)), some (.ref (x2)), some (.ref (x3)), some (.int (x4)), some (.int (v322)), none]) (jv_dk t_L_law_12 (k := 17) rfl) (Nat.le_of_ble_eq_true rfl) rfl ?_
      refine jv_aload_n (jv_dk t_L_law_12 (k := 18) rfl) rfl rfl (Or.inr ⟨_, rfl⟩) ?_
      refine jv_aload_n (jv_dk t_L_law_12 (k := 19) rfl) rfl rfl (Or.inr ⟨_, rfl⟩) ?_
      refine jv_iload (jv_dk t_L_law_12 (k := 20) rfl) rfl ?_
      refine jv_iconst (v := 1) (jv_dk t_L_law_12 (k := 21) rfl) (by decide) ?_
      refine jv_iadd (jv_dk t_L_law_12 (k := 22) rfl) ?_
      refine jv_xI (jv_dk t_L_law_12 (k := 23) rfl) (fun v324 => ?_)
      refine jv_aload_n (jv_dk t_L_law_12 (k := 24) rfl) rfl rfl (Or.inr ⟨_, rfl⟩) ?_
      refine jv_iload (jv_dk t_L_law_13 (k := 0) rfl) rfl ?_
      refine jv_iconst (v := 2) (jv_dk t_L_law_13 (k := 1) rfl) (by decide) ?_
      refine jv_iadd (jv_dk t_L_law_13 (k := 2) rfl) ?_
      refine jv_xI (jv_dk t_L_law_13 (k := 3) rfl) (fun v325 => ?_)
      refine jv_callV (en' := jeI) (pv := jpI) (As := [.int (v324), .int (v325)]) (S := []) (jv_dk t_L_law_13 (k := 4) rfl) (fun _ => rfl) (Or.inl lk_L_106) me_X13_listed mv_X13_listed ⟨by decide, by decide⟩ rfl rfl rfl (Nat.le_of_ble_eq_true rfl) (P_X13_listed X x2 v324 v325 h323) (fun v326 h327 => ?_)
      show jv_O X M_L_law _ jeI 641 [some (.ref (jv_ad X 13)), some (.ref (x1)), some (.ref (x2)), some (.ref (x3)), some (.int (x4)), some (.int (v322)), none] [.int (v326)] h327 _
      refine jv_istore (L' := [some (.ref (jv_ad X 13)), some (.ref (x1)), some (.ref (x2)), some (.ref (x3)), some (.int (x4)), some (.int (v322)), some (.int (v326))]) (jv_dk t_L_law_13 (k := 5) rfl) (Nat.le_of_ble_eq_true rfl) rfl ?_
      refine jv_aload_n (jv_dk t_L_law_13 (k := 6) rfl) rfl rfl (Or.inr ⟨_, rfl⟩) ?_
      refine jv_callV (en' := jeI) (pv := jpI) (As := []) (S := []) (jv_dk t_L_law_13 (k := 7) rfl) (fun _ => rfl) (Or.inl lk_L_82) me_X13_thrown mv_X13_thrown ⟨by decide, by decide⟩ rfl rfl rfl (Nat.le_of_ble_eq_true rfl) (P_X13_thrown X x2 h327) (fun v328 h329 => ?_)
      show jv_O X M_L_law _ jeI 647 [some (.ref (jv_ad X 13)), some (.ref (x1)), some (.ref (x2)), some (.ref (x3)), some (.int (x4)), some (.int (v322)), some (.int (v326))] [.int (v328)] h329 _
      refine jv_iload (jv_dk t_L_law_13 (k := 8) rfl) rfl ?_
      refine jv_icmp_eq (tgt := 654) (jv_dk t_L_law_13 (k := 9) rfl) rfl (fun c330 => ?_) (fun c330 => ?_)
      · refine jv_iload (jv_dk t_L_law_13 (k := 12) rfl) rfl ?_
        refine jv_if_ne (tgt := 671) (jv_dk t_L_law_13 (k := 13) rfl) rfl (fun c331 => ?_) (fun c331 => ?_)
        · refine jv_goto (tgt := 1929) (jv_dk t_L_law_13 (k := 23) rfl) rfl ?_
          refine jv_iinc (v := 6) (L' := [some (.ref (jv_ad X 13)), some (.ref (x1)), some (.ref (x2)), some (.ref (x3)), some (.int (x4 + 6)), some (.int (v322)), some (.int (v326))]) (jv_dk t_L_law_48 (k := 3) rfl) rfl (by decide) rfl ?_
          refine jv_goto (tgt := 23) (jv_dk t_L_law_48 (k := 4) rfl) rfl ?_
          refine jv_le_row (jv_le_s (jv_le_s (jv_le_s (jv_le_s (jv_le_s (jv_le_n (jv_le_n (jv_le_nil)))))))) ?_
          exact hR23 _ _ _ _ _ 
        · show jv_O _ _ _ _ 659 _ _ _ _
          refine jv_aload_n (jv_dk t_L_law_13 (k := 14) rfl) rfl rfl (Or.inr ⟨_, rfl⟩) ?_
          refine jv_iconst (v := 0) (jv_dk t_L_law_13 (k := 15) rfl) (by decide) ?_
          refine jv_laload (jv_dk t_L_law_13 (k := 16) rfl) (fun v332 => ?_)
          refine jv_iload (jv_dk t_L_law_13 (k := 17) rfl) rfl ?_
          refine jv_i2l (jv_dk t_L_law_13 (k := 18) rfl) ?_
          refine jv_lcmp (jv_dk t_L_law_13 (k := 19) rfl) ?_
          refine jv_if_eq (tgt := 671) (jv_dk t_L_law_13 (k := 20) rfl) rfl (fun c333 => ?_) (fun c333 => ?_)
          · refine jv_goto (tgt := 1929) (jv_dk t_L_law_13 (k := 23) rfl) rfl ?_
            refine jv_iinc (v := 6) (L' := [some (.ref (jv_ad X 13)), some (.ref (x1)), some (.ref (x2)), some (.ref (x3)), some (.int (x4 + 6)), some (.int (v322)), some (.int (v326))]) (jv_dk t_L_law_48 (k := 3) rfl) rfl (by decide) rfl ?_
            refine jv_goto (tgt := 23) (jv_dk t_L_law_48 (k := 4) rfl) rfl ?_
            refine jv_le_row (jv_le_s (jv_le_s (jv_le_s (jv_le_s (jv_le_s (jv_le_n (jv_le_n (jv_le_nil)))))))) ?_
            exact hR23 _ _ _ _ _ 
          · show jv_O _ _ _ _ 669 _ _ _ _
            refine jv_iconst (v := 0) (jv_dk t_L_law_13 (k := 21) rfl) (by decide) ?_
            exact jv_iret (ty := .boolean) (jv_dk t_L_law_13 (k := 22) rfl) rfl rfl rfl
      · show jv_O _ _ _ _ 652 _ _ _ _
        refine jv_iconst (v := 0) (jv_dk t_L_law_13 (k := 10) rfl) (by decide) ?_
        exact jv_iret (ty := .boolean) (jv_dk t_L_law_13 (k := 11) rfl) rfl rfl rfl
    rw [if_neg c18]
    by_cases c19 : (v10 &&& 63) = 8
    · rw [if_pos c19]
      refine jv_tbl (tgt := 674) (jv_dk t_L_law_0 (k := 24) rfl) (by rw [c19] <;> decide) (by rw [c19] <;> decide) (by rw [c19] <;> rfl) rfl ?_
      refine jv_aload_n (jv_dk t_L_law_13 (k := 24) rfl) rfl rfl (Or.inr ⟨_, rfl⟩) ?_
      refine jv_aload_n (jv_dk t_L_law_14 (k := 0) rfl) rfl rfl (Or.inr ⟨_, rfl⟩) ?_
      refine jv_iload (jv_dk t_L_law_14 (k := 1) rfl) rfl ?_
      refine jv_iconst (v := 1) (jv_dk t_L_law_14 (k := 2) rfl) (by decide) ?_
      refine jv_iadd (jv_dk t_L_law_14 (k := 3) rfl) ?_
      refine jv_xI (jv_dk t_L_law_14 (k := 4) rfl) (fun v306 => ?_)
      refine jv_aload_n (jv_dk t_L_law_14 (k := 5) rfl) rfl rfl (Or.inr ⟨_, rfl⟩) ?_
      refine jv_iload (jv_dk t_L_law_14 (k := 6) rfl) rfl ?_
      refine jv_iconst (v := 2) (jv_dk t_L_law_14 (k := 7) rfl) (by decide) ?_
      refine jv_iadd (jv_dk t_L_law_14 (k := 8) rfl) ?_
      refine jv_xI (jv_dk t_L_law_14 (k := 9) rfl) (fun v307 => ?_)
      refine jv_aload_n (jv_dk t_L_law_14 (k := 10) rfl) rfl rfl (Or.inr ⟨_, rfl⟩) ?_
      refine jv_callH (en' := jeI) (pv := jpI) (As := [.ref (x1), .int (v306), .int (v307), .ref (x3)]) (S := []) (jv_dk t_L_law_14 (k := 11) rfl) (fun _ => rfl) lk_L_107 me_L_inside ms_L_inside ⟨by decide, by decide⟩ rfl rfl (Nat.le_of_ble_eq_true rfl) (P_L_inside X x1 v306 v307 x3 h) (fun v308 h309 => ?_)
      show jv_O X M_L_law _ jeI 691 [some (.ref (jv_ad X 13)), some (.ref (x1)), some (.ref (x2)), some (.ref (x3)), some (.int (x4)), none, none] [.int (v308)] h309 _
      refine jv_istore (L' := [some (.ref (jv_ad X 13)), some (.ref (x1)), some (.ref (x2)), some (.ref (x3)), some (.int (x4)), some (.int (v308)), none]) (jv_dk t_L_law_14 (k := 12) rfl) (Nat.le_of_ble_eq_true rfl) rfl ?_
      refine jv_aload_n (jv_dk t_L_law_14 (k := 13) rfl) rfl rfl (Or.inr ⟨_, rfl⟩) ?_
      refine jv_aload_n (jv_dk t_L_law_14 (k := 14) rfl) rfl rfl (Or.inr ⟨_, rfl⟩) ?_
      refine jv_iload (jv_dk t_L_law_14 (k := 15) rfl) rfl ?_
      refine jv_iconst (v := 1) (jv_dk t_L_law_14 (k := 16) rfl) (by decide) ?_
      refine jv_iadd (jv_dk t_L_law_14 (k := 17) rfl) ?_
      refine jv_xI (jv_dk t_L_law_14 (k := 18) rfl) (fun v310 => ?_)
      refine jv_aload_n (jv_dk t_L_law_14 (k := 19) rfl) rfl rfl (Or.inr ⟨_, rfl⟩) ?_
      refine jv_iload (jv_dk t_L_law_14 (k := 20) rfl) rfl ?_
      refine jv_iconst (v := 2) (jv_dk t_L_law_14 (k := 21) rfl) (by decide) ?_
      refine jv_iadd (jv_dk t_L_law_14 (k := 22) rfl) ?_
      refine jv_xI (jv_dk t_L_law_14 (k := 23) rfl) (fun v311 => ?_)
      refine jv_callV (en' := jeI) (pv := jpI) (As := [.int (v310), .int (v311)]) (S := []) (jv_dk t_L_law_14 (k := 24) rfl) (fun _ => rfl) (Or.inl lk_L_109) me_X13_inside mv_X13_inside ⟨by decide, by decide⟩ rfl rfl rfl (Nat.le_of_ble_eq_true rfl) (P_X13_inside X x2 v310 v311 h309) (fun v312 h313 => ?_)
      show jv_O X M_L_law _ jeI 709 [some (.ref (jv_ad X 13)), some (.ref (x1)), some (.ref (x2)), some (.ref (x3)), some (.int (x4)), some (.int (v308)), none] [.int (v312)] h313 _
      refine jv_istore (L' := [some (.ref (jv_ad X 13)), some (.ref (x1)), some (.ref (x2)), some (.ref (x3)), some (.int (x4)), some (.int (v308)), some (.int (v312))]) (jv_dk t_L_law_15 (k := 0) rfl) (Nat.le_of_ble_eq_true rfl) rfl ?_
      refine jv_aload_n (jv_dk t_L_law_15 (k := 1) rfl) rfl rfl (Or.inr ⟨_, rfl⟩) ?_
      refine jv_callV (en' := jeI) (pv := jpI) (As := []) (S := []) (jv_dk t_L_law_15 (k := 2) rfl) (fun _ => rfl) (Or.inl lk_L_82) me_X13_thrown mv_X13_thrown ⟨by decide, by decide⟩ rfl rfl rfl (Nat.le_of_ble_eq_true rfl) (P_X13_thrown X x2 h313) (fun v314 h315 => ?_)
      show jv_O X M_L_law _ jeI 715 [some (.ref (jv_ad X 13)), some (.ref (x1)), some (.ref (x2)), some (.ref (x3)), some (.int (x4)), some (.int (v308)), some (.int (v312))] [.int (v314)] h315 _
      refine jv_iload (jv_dk t_L_law_15 (k := 3) rfl) rfl ?_
      refine jv_icmp_eq (tgt := 722) (jv_dk t_L_law_15 (k := 4) rfl) rfl (fun c316 => ?_) (fun c316 => ?_)
      · refine jv_iload (jv_dk t_L_law_15 (k := 7) rfl) rfl ?_
        refine jv_if_ne (tgt := 739) (jv_dk t_L_law_15 (k := 8) rfl) rfl (fun c317 => ?_) (fun c317 => ?_)
        · refine jv_goto (tgt := 1929) (jv_dk t_L_law_15 (k := 18) rfl) rfl ?_
          refine jv_iinc (v := 6) (L' := [some (.ref (jv_ad X 13)), some (.ref (x1)), some (.ref (x2)), some (.ref (x3)), some (.int (x4 + 6)), some (.int (v308)), some (.int (v312))]) (jv_dk t_L_law_48 (k := 3) rfl) rfl (by decide) rfl ?_
          refine jv_goto (tgt := 23) (jv_dk t_L_law_48 (k := 4) rfl) rfl ?_
          refine jv_le_row (jv_le_s (jv_le_s (jv_le_s (jv_le_s (jv_le_s (jv_le_n (jv_le_n (jv_le_nil)))))))) ?_
          exact hR23 _ _ _ _ _ 
        · show jv_O _ _ _ _ 727 _ _ _ _
          refine jv_aload_n (jv_dk t_L_law_15 (k := 9) rfl) rfl rfl (Or.inr ⟨_, rfl⟩) ?_
          refine jv_iconst (v := 0) (jv_dk t_L_law_15 (k := 10) rfl) (by decide) ?_
          refine jv_laload (jv_dk t_L_law_15 (k := 11) rfl) (fun v318 => ?_)
          refine jv_iload (jv_dk t_L_law_15 (k := 12) rfl) rfl ?_
          refine jv_i2l (jv_dk t_L_law_15 (k := 13) rfl) ?_
          refine jv_lcmp (jv_dk t_L_law_15 (k := 14) rfl) ?_
          refine jv_if_eq (tgt := 739) (jv_dk t_L_law_15 (k := 15) rfl) rfl (fun c319 => ?_) (fun c319 => ?_)
          · refine jv_goto (tgt := 1929) (jv_dk t_L_law_15 (k := 18) rfl) rfl ?_
            refine jv_iinc (v := 6) (L' := [some (.ref (jv_ad X 13)), some (.ref (x1)), some (.ref (x2)), some (.ref (x3)), some (.int (x4 + 6)), some (.int (v308)), some (.int (v312))]) (jv_dk t_L_law_48 (k := 3) rfl) rfl (by decide) rfl ?_
            refine jv_goto (tgt := 23) (jv_dk t_L_law_48 (k := 4) rfl) rfl ?_
            refine jv_le_row (jv_le_s (jv_le_s (jv_le_s (jv_le_s (jv_le_s (jv_le_n (jv_le_n (jv_le_nil)))))))) ?_
            exact hR23 _ _ _ _ _ 
          · show jv_O _ _ _ _ 737 _ _ _ _
            refine jv_iconst (v := 0) (jv_dk t_L_law_15 (k := 16) rfl) (by decide) ?_
            exact jv_iret (ty := .boolean) (jv_dk t_L_law_15 (k := 17) rfl) rfl rfl rfl
      · show jv_O _ _ _ _ 720 _ _ _ _
        refine jv_iconst (v := 0) (jv_dk t_L_law_15 (k := 5) rfl) (by decide) ?_
        exact jv_iret (ty := .boolean) (jv_dk t_L_law_15 (k := 6) rfl) rfl rfl rfl
    rw [if_neg c19]
    by_cases c20 : (v10 &&& 63) = 9
    · rw [if_pos c20]
      refine jv_tbl (tgt := 742) (jv_dk t_L_law_0 (k := 24) rfl) (by rw [c20] <;> decide) (by rw [c20] <;> decide) (by rw [c20] <;> rfl) rfl ?_
      refine jv_aload_n (jv_dk t_L_law_15 (k := 19) rfl) rfl rfl (Or.inr ⟨_, rfl⟩) ?_
      refine jv_aload_n (jv_dk t_L_law_15 (k := 20) rfl) rfl rfl (Or.inr ⟨_, rfl⟩) ?_
      refine jv_iload (jv_dk t_L_law_15 (k := 21) rfl) rfl ?_
      refine jv_iconst (v := 1) (jv_dk t_L_law_15 (k := 22) rfl) (by decide) ?_
      refine jv_iadd (jv_dk t_L_law_15 (k := 23) rfl) ?_
      refine jv_xI (jv_dk t_L_law_15 (k := 24) rfl) (fun v292 => ?_)
      refine jv_aload_n (jv_dk t_L_law_16 (k := 0) rfl) rfl rfl (Or.inr ⟨_, rfl⟩) ?_
      refine jv_iload (jv_dk t_L_law_16 (k := 1) rfl) rfl ?_
      refine jv_iconst (v := 2) (jv_dk t_L_law_16 (k := 2) rfl) (by decide) ?_
      refine jv_iadd (jv_dk t_L_law_16 (k := 3) rfl) ?_
      refine jv_xI (jv_dk t_L_law_16 (k := 4) rfl) (fun v293 => ?_)
      refine jv_aload_n (jv_dk t_L_law_16 (k := 5) rfl) rfl rfl (Or.inr ⟨_, rfl⟩) ?_
      refine jv_callH (en' := jeI) (pv := jpI) (As := [.ref (x1), .int (v292), .int (v293), .ref (x3)]) (S := []) (jv_dk t_L_law_16 (k := 6) rfl) (fun _ => rfl) lk_L_110 me_L_outside ms_L_outside ⟨by decide, by decide⟩ rfl rfl (Nat.le_of_ble_eq_true rfl) (P_L_outside X x1 v292 v293 x3 h) (fun v294 h295 => ?_)
      show jv_O X M_L_law _ jeI 759 [some (.ref (jv_ad X 13)), some (.ref (x1)), some (.ref (x2)), some (.ref (x3)), some (.int (x4)), none, none] [.int (v294)] h295 _
      refine jv_istore (L' := [some (.ref (jv_ad X 13)), some (.ref (x1)), some (.ref (x2)), some (.ref (x3)), some (.int (x4)), some (.int (v294)), none]) (jv_dk t_L_law_16 (k := 7) rfl) (Nat.le_of_ble_eq_true rfl) rfl ?_
      refine jv_aload_n (jv_dk t_L_law_16 (k := 8) rfl) rfl rfl (Or.inr ⟨_, rfl⟩) ?_
      refine jv_aload_n (jv_dk t_L_law_16 (k := 9) rfl) rfl rfl (Or.inr ⟨_, rfl⟩) ?_
      refine jv_iload (jv_dk t_L_law_16 (k := 10) rfl) rfl ?_
      refine jv_iconst (v := 1) (jv_dk t_L_law_16 (k := 11) rfl) (by decide) ?_
      refine jv_iadd (jv_dk t_L_law_16 (k := 12) rfl) ?_
      refine jv_xI (jv_dk t_L_law_16 (k := 13) rfl) (fun v296 => ?_)
      refine jv_aload_n (jv_dk t_L_law_16 (k := 14) rfl) rfl rfl (Or.inr ⟨_, rfl⟩) ?_
      refine jv_iload (jv_dk t_L_law_16 (k := 15) rfl) rfl ?_
      refine jv_iconst (v := 2) (jv_dk t_L_law_16 (k := 16) rfl) (by decide) ?_
      refine jv_iadd (jv_dk t_L_law_16 (k := 17) rfl) ?_
      refine jv_xI (jv_dk t_L_law_16 (k := 18) rfl) (fun v297 => ?_)
      refine jv_callV (en' := jeI) (pv := jpI) (As := [.int (v296), .int (v297)]) (S := []) (jv_dk t_L_law_16 (k := 19) rfl) (fun _ => rfl) (Or.inl lk_L_112) me_X13_outside mv_X13_outside ⟨by decide, by decide⟩ rfl rfl rfl (Nat.le_of_ble_eq_true rfl) (P_X13_outside X x2 v296 v297 h295) (fun v298 h299 => ?_)
      show jv_O X M_L_law _ jeI 777 [some (.ref (jv_ad X 13)), some (.ref (x1)), some (.ref (x2)), some (.ref (x3)), some (.int (x4)), some (.int (v294)), none] [.int (v298)] h299 _
      refine jv_istore (L' := [some (.ref (jv_ad X 13)), some (.ref (x1)), some (.ref (x2)), some (.ref (x3)), some (.int (x4)), some (.int (v294)), some (.int (v298))]) (jv_dk t_L_law_16 (k := 20) rfl) (Nat.le_of_ble_eq_true rfl) rfl ?_
      refine jv_aload_n (jv_dk t_L_law_16 (k := 21) rfl) rfl rfl (Or.inr ⟨_, rfl⟩) ?_
      refine jv_callV (en' := jeI) (pv := jpI) (As := []) (S := []) (jv_dk t_L_law_16 (k := 22) rfl) (fun _ => rfl) (Or.inl lk_L_82) me_X13_thrown mv_X13_thrown ⟨by decide, by decide⟩ rfl rfl rfl (Nat.le_of_ble_eq_true rfl) (P_X13_thrown X x2 h299) (fun v300 h301 => ?_)
      show jv_O X M_L_law _ jeI 783 [some (.ref (jv_ad X 13)), some (.ref (x1)), some (.ref (x2)), some (.ref (x3)), some (.int (x4)), some (.int (v294)), some (.int (v298))] [.int (v300)] h301 _
      refine jv_iload (jv_dk t_L_law_16 (k := 23) rfl) rfl ?_
      refine jv_icmp_eq (tgt := 790) (jv_dk t_L_law_16 (k := 24) rfl) rfl (fun c302 => ?_) (fun c302 => ?_)
      · refine jv_iload (jv_dk t_L_law_17 (k := 2) rfl) rfl ?_
        refine jv_if_ne (tgt := 807) (jv_dk t_L_law_17 (k := 3) rfl) rfl (fun c303 => ?_) (fun c303 => ?_)
        · refine jv_goto (tgt := 1929) (jv_dk t_L_law_17 (k := 13) rfl) rfl ?_
          refine jv_iinc (v := 6) (L' := [some (.ref (jv_ad X 13)), some (.ref (x1)), some (.ref (x2)), some (.ref (x3)), some (.int (x4 + 6)), some (.int (v294)), some (.int (v298))]) (jv_dk t_L_law_48 (k := 3) rfl) rfl (by decide) rfl ?_
          refine jv_goto (tgt := 23) (jv_dk t_L_law_48 (k := 4) rfl) rfl ?_
          refine jv_le_row (jv_le_s (jv_le_s (jv_le_s (jv_le_s (jv_le_s (jv_le_n (jv_le_n (jv_le_nil)))))))) ?_
          exact hR23 _ _ _ _ _ 
        · show jv_O _ _ _ _ 795 _ _ _ _
          refine jv_aload_n (jv_dk t_L_law_17 (k := 4) rfl) rfl rfl (Or.inr ⟨_, rfl⟩) ?_
          refine jv_iconst (v := 0) (jv_dk t_L_law_17 (k := 5) rfl) (by decide) ?_
          refine jv_laload (jv_dk t_L_law_17 (k := 6) rfl) (fun v304 => ?_)
          refine jv_iload (jv_dk t_L_law_17 (k := 7) rfl) rfl ?_
          refine jv_i2l (jv_dk t_L_law_17 (k := 8) rfl) ?_
          refine jv_lcmp (jv_dk t_L_law_17 (k := 9) rfl) ?_
          refine jv_if_eq (tgt := 807) (jv_dk t_L_law_17 (k := 10) rfl) rfl (fun c305 => ?_) (fun c305 => ?_)
          · refine jv_goto (tgt := 1929) (jv_dk t_L_law_17 (k := 13) rfl) rfl ?_
            refine jv_iinc (v := 6) (L' := [some (.ref (jv_ad X 13)), some (.ref (x1)), some (.ref (x2)), some (.ref (x3)), some (.int (x4 + 6)), some (.int (v294)), some (.int (v298))]) (jv_dk t_L_law_48 (k := 3) rfl) rfl (by decide) rfl ?_
            refine jv_goto (tgt := 23) (jv_dk t_L_law_48 (k := 4) rfl) rfl ?_
            refine jv_le_row (jv_le_s (jv_le_s (jv_le_s (jv_le_s (jv_le_s (jv_le_n (jv_le_n (jv_le_nil)))))))) ?_
            exact hR23 _ _ _ _ _ 
          · show jv_O _ _ _ _ 805 _ _ _ _
            refine jv_iconst (v := 0) (jv_dk t_L_law_17 (k := 11) rfl) (by decide) ?_
            exact jv_iret (ty := .boolean) (jv_dk t_L_law_17 (k := 12) rfl) rfl rfl rfl
      · show jv_O _ _ _ _ 788 _ _ _ _
        refine jv_iconst (v := 0) (jv_dk t_L_law_17 (k := 0) rfl) (by decide) ?_
        exact jv_iret (ty := .boolean) (jv_dk t_L_law_17 (k := 1) rfl) rfl rfl rfl
    rw [if_neg c20]
    by_cases c21 : (v10 &&& 63) = 10
    · rw [if_pos c21]
      refine jv_tbl (tgt := 810) (jv_dk t_L_law_0 (k := 24) rfl) (by rw [c21] <;> decide) (by rw [c21] <;> decide) (by rw [c21] <;> rfl) rfl ?_
      refine jv_aload_n (jv_dk t_L_law_17 (k := 14) rfl) rfl rfl (Or.inr ⟨_, rfl⟩) ?_
      refine jv_aload_n (jv_dk t_L_law_17 (k := 15) rfl) rfl rfl (Or.inr ⟨_, rfl⟩) ?_
      refine jv_iload (jv_dk t_L_law_17 (k := 16) rfl) rfl ?_
      refine jv_iconst (v := 1) (jv_dk t_L_law_17 (k := 17) rfl) (by decide) ?_
      refine jv_iadd (jv_dk t_L_law_17 (k := 18) rfl) ?_
      refine jv_xI (jv_dk t_L_law_17 (k := 19) rfl) (fun v276 => ?_)
      refine jv_aload_n (jv_dk t_L_law_17 (k := 20) rfl) rfl rfl (Or.inr ⟨_, rfl⟩) ?_
      refine jv_iload (jv_dk t_L_law_17 (k := 21) rfl) rfl ?_
      refine jv_iconst (v := 2) (jv_dk t_L_law_17 (k := 22) rfl) (by decide) ?_
      refine jv_iadd (jv_dk t_L_law_17 (k := 23) rfl) ?_
      refine jv_xI (jv_dk t_L_law_17 (k := 24) rfl) (fun v277 => ?_)
      refine jv_aload_n (jv_dk t_L_law_18 (k := 0) rfl) rfl rfl (Or.inr ⟨_, rfl⟩) ?_
      refine jv_iload (jv_dk t_L_law_18 (k := 1) rfl) rfl ?_
      refine jv_iconst (v := 3) (jv_dk t_L_law_18 (k := 2) rfl) (by decide) ?_
      refine jv_iadd (jv_dk t_L_law_18 (k := 3) rfl) ?_
      refine jv_xI (jv_dk t_L_law_18 (k := 4) rfl) (fun v278 => ?_)
      refine jv_aload_n (jv_dk t_L_law_18 (k := 5) rfl) rfl rfl (Or.inr ⟨_, rfl⟩) ?_
      refine jv_callH (en' := jeI) (pv := jpI) (As := [.ref (x1), .int (v276), .int (v277), .int (v278), .ref (x3)]) (S := []) (jv_dk t_L_law_18 (k := 6) rfl) (fun _ => rfl) lk_L_113 me_L_range ms_L_range ⟨by decide, by decide⟩ rfl rfl (Nat.le_of_ble_eq_true rfl) (P_L_range X x1 v276 v277 v278 x3 h) (fun v279 h280 => ?_)
      show jv_O X M_L_law _ jeI 833 [some (.ref (jv_ad X 13)), some (.ref (x1)), some (.ref (x2)), some (.ref (x3)), some (.int (x4)), none, none] [.int (v279)] h280 _
      refine jv_istore (L' := [some (.ref (jv_ad X 13)), some (.ref (x1)), some (.ref (x2)), some (.ref (x3)), some (.int (x4)), some (.int (v279)), none]) (jv_dk t_L_law_18 (k := 7) rfl) (Nat.le_of_ble_eq_true rfl) rfl ?_
      refine jv_aload_n (jv_dk t_L_law_18 (k := 8) rfl) rfl rfl (Or.inr ⟨_, rfl⟩) ?_
      refine jv_aload_n (jv_dk t_L_law_18 (k := 9) rfl) rfl rfl (Or.inr ⟨_, rfl⟩) ?_
      refine jv_iload (jv_dk t_L_law_18 (k := 10) rfl) rfl ?_
      refine jv_iconst (v := 1) (jv_dk t_L_law_18 (k := 11) rfl) (by decide) ?_
      refine jv_iadd (jv_dk t_L_law_18 (k := 12) rfl) ?_
      refine jv_xI (jv_dk t_L_law_18 (k := 13) rfl) (fun v281 => ?_)
      refine jv_aload_n (jv_dk t_L_law_18 (k := 14) rfl) rfl rfl (Or.inr ⟨_, rfl⟩) ?_
      refine jv_iload (jv_dk t_L_law_18 (k := 15) rfl) rfl ?_
      refine jv_iconst (v := 2) (jv_dk t_L_law_18 (k := 16) rfl) (by decide) ?_
      refine jv_iadd (jv_dk t_L_law_18 (k := 17) rfl) ?_
      refine jv_xI (jv_dk t_L_law_18 (k := 18) rfl) (fun v282 => ?_)
      refine jv_aload_n (jv_dk t_L_law_18 (k := 19) rfl) rfl rfl (Or.inr ⟨_, rfl⟩) ?_
      refine jv_iload (jv_dk t_L_law_18 (k := 20) rfl) rfl ?_
      refine jv_iconst (v := 3) (jv_dk t_L_law_18 (k := 21) rfl) (by decide) ?_
      refine jv_iadd (jv_dk t_L_law_18 (k := 22) rfl) ?_
      refine jv_xI (jv_dk t_L_law_18 (k := 23) rfl) (fun v283 => ?_)
      refine jv_callV (en' := jeI) (pv := jpI) (As := [.int (v281), .int (v282), .int (v283)]) (S := []) (jv_dk t_L_law_18 (k := 24) rfl) (fun _ => rfl) (Or.inl lk_L_115) me_X13_range mv_X13_range ⟨by decide, by decide⟩ rfl rfl rfl (Nat.le_of_ble_eq_true rfl) (P_X13_range X x2 v281 v282 v283 h280) (fun v284 h285 => ?_)
      show jv_O X M_L_law _ jeI 857 [some (.ref (jv_ad X 13)), some (.ref (x1)), some (.ref (x2)), some (.ref (x3)), some (.int (x4)), some (.int (v279)), none] [.int (v284)] h285 _
      refine jv_istore (L' := [some (.ref (jv_ad X 13)), some (.ref (x1)), some (.ref (x2)), some (.ref (x3)), some (.int (x4)), some (.int (v279)), some (.int (v284))]) (jv_dk t_L_law_19 (k := 0) rfl) (Nat.le_of_ble_eq_true rfl) rfl ?_
      refine jv_aload_n (jv_dk t_L_law_19 (k := 1) rfl) rfl rfl (Or.inr ⟨_, rfl⟩) ?_
      refine jv_callV (en' := jeI) (pv := jpI) (As := []) (S := []) (jv_dk t_L_law_19 (k := 2) rfl) (fun _ => rfl) (Or.inl lk_L_82) me_X13_thrown mv_X13_thrown ⟨by decide, by decide⟩ rfl rfl rfl (Nat.le_of_ble_eq_true rfl) (P_X13_thrown X x2 h285) (fun v286 h287 => ?_)
      show jv_O X M_L_law _ jeI 863 [some (.ref (jv_ad X 13)), some (.ref (x1)), some (.ref (x2)), some (.ref (x3)), some (.int (x4)), some (.int (v279)), some (.int (v284))] [.int (v286)] h287 _
      refine jv_iload (jv_dk t_L_law_19 (k := 3) rfl) rfl ?_
      refine jv_icmp_eq (tgt := 870) (jv_dk t_L_law_19 (k := 4) rfl) rfl (fun c288 => ?_) (fun c288 => ?_)
      · refine jv_iload (jv_dk t_L_law_19 (k := 7) rfl) rfl ?_
        refine jv_if_ne (tgt := 887) (jv_dk t_L_law_19 (k := 8) rfl) rfl (fun c289 => ?_) (fun c289 => ?_)
        · refine jv_goto (tgt := 1929) (jv_dk t_L_law_19 (k := 18) rfl) rfl ?_
          refine jv_iinc (v := 6) (L' := [some (.ref (jv_ad X 13)), some (.ref (x1)), some (.ref (x2)), some (.ref (x3)), some (.int (x4 + 6)), some (.int (v279)), some (.int (v284))]) (jv_dk t_L_law_48 (k := 3) rfl) rfl (by decide) rfl ?_
          refine jv_goto (tgt := 23) (jv_dk t_L_law_48 (k := 4) rfl) rfl ?_
          refine jv_le_row (jv_le_s (jv_le_s (jv_le_s (jv_le_s (jv_le_s (jv_le_n (jv_le_n (jv_le_nil)))))))) ?_
          exact hR23 _ _ _ _ _ 
        · show jv_O _ _ _ _ 875 _ _ _ _
          refine jv_aload_n (jv_dk t_L_law_19 (k := 9) rfl) rfl rfl (Or.inr ⟨_, rfl⟩) ?_
          refine jv_iconst (v := 0) (jv_dk t_L_law_19 (k := 10) rfl) (by decide) ?_
          refine jv_laload (jv_dk t_L_law_19 (k := 11) rfl) (fun v290 => ?_)
          refine jv_iload (jv_dk t_L_law_19 (k := 12) rfl) rfl ?_
          refine jv_i2l (jv_dk t_L_law_19 (k := 13) rfl) ?_
          refine jv_lcmp (jv_dk t_L_law_19 (k := 14) rfl) ?_
          refine jv_if_eq (tgt := 887) (jv_dk t_L_law_19 (k := 15) rfl) rfl (fun c291 => ?_) (fun c291 => ?_)
          · refine jv_goto (tgt := 1929) (jv_dk t_L_law_19 (k := 18) rfl) rfl ?_
            refine jv_iinc (v := 6) (L' := [some (.ref (jv_ad X 13)), some (.ref (x1)), some (.ref (x2)), some (.ref (x3)), some (.int (x4 + 6)), some (.int (v279)), some (.int (v284))]) (jv_dk t_L_law_48 (k := 3) rfl) rfl (by decide) rfl ?_
            refine jv_goto (tgt := 23) (jv_dk t_L_law_48 (k := 4) rfl) rfl ?_
            refine jv_le_row (jv_le_s (jv_le_s (jv_le_s (jv_le_s (jv_le_s (jv_le_n (jv_le_n (jv_le_nil)))))))) ?_
            exact hR23 _ _ _ _ _ 
          · show jv_O _ _ _ _ 885 _ _ _ _
            refine jv_iconst (v := 0) (jv_dk t_L_law_19 (k := 16) rfl) (by decide) ?_
            exact jv_iret (ty := .boolean) (jv_dk t_L_law_19 (k := 17) rfl) rfl rfl rfl
      · show jv_O _ _ _ _ 868 _ _ _ _
        refine jv_iconst (v := 0) (jv_dk t_L_law_19 (k := 5) rfl) (by decide) ?_
        exact jv_iret (ty := .boolean) (jv_dk t_L_law_19 (k := 6) rfl) rfl rfl rfl
    rw [if_neg c21]
    by_cases c22 : (v10 &&& 63) = 11
    · rw [if_pos c22]
      refine jv_tbl (tgt := 890) (jv_dk t_L_law_0 (k := 24) rfl) (by rw [c22] <;> decide) (by rw [c22] <;> decide) (by rw [c22] <;> rfl) rfl ?_
      refine jv_aload_n (jv_dk t_L_law_19 (k := 19) rfl) rfl rfl (Or.inr ⟨_, rfl⟩) ?_
      refine jv_aload_n (jv_dk t_L_law_19 (k := 20) rfl) rfl rfl (Or.inr ⟨_, rfl⟩) ?_
      refine jv_iload (jv_dk t_L_law_19 (k := 21) rfl) rfl ?_
      refine jv_iconst (v := 1) (jv_dk t_L_law_19 (k := 22) rfl) (by decide) ?_
      refine jv_iadd (jv_dk t_L_law_19 (k := 23) rfl) ?_
      refine jv_xI (jv_dk t_L_law_19 (k := 24) rfl) (fun v262 => ?_)
      refine jv_aload_n (jv_dk t_L_law_20 (k := 0) rfl) rfl rfl (Or.inr ⟨_, rfl⟩) ?_
      refine jv_iload (jv_dk t_L_law_20 (k := 1) rfl) rfl ?_
      refine jv_iconst (v := 2) (jv_dk t_L_law_20 (k := 2) rfl) (by decide) ?_
      refine jv_iadd (jv_dk t_L_law_20 (k := 3) rfl) ?_
      refine jv_xI (jv_dk t_L_law_20 (k := 4) rfl) (fun v263 => ?_)
      refine jv_aload_n (jv_dk t_L_law_20 (k := 5) rfl) rfl rfl (Or.inr ⟨_, rfl⟩) ?_
      refine jv_callH (en' := jeI) (pv := jpI) (As := [.ref (x1), .int (v262), .int (v263), .ref (x3)]) (S := []) (jv_dk t_L_law_20 (k := 6) rfl) (fun _ => rfl) lk_L_116 me_L_mounted ms_L_mounted ⟨by decide, by decide⟩ rfl rfl (Nat.le_of_ble_eq_true rfl) (P_L_mounted X x1 v262 v263 x3 h) (fun v264 h265 => ?_)
      show jv_O X M_L_law _ jeI 907 [some (.ref (jv_ad X 13)), some (.ref (x1)), some (.ref (x2)), some (.ref (x3)), some (.int (x4)), none, none] [.int (v264)] h265 _
      refine jv_istore (L' := [some (.ref (jv_ad X 13)), some (.ref (x1)), some (.ref (x2)), some (.ref (x3)), some (.int (x4)), some (.int (v264)), none]) (jv_dk t_L_law_20 (k := 7) rfl) (Nat.le_of_ble_eq_true rfl) rfl ?_
      refine jv_aload_n (jv_dk t_L_law_20 (k := 8) rfl) rfl rfl (Or.inr ⟨_, rfl⟩) ?_
      refine jv_aload_n (jv_dk t_L_law_20 (k := 9) rfl) rfl rfl (Or.inr ⟨_, rfl⟩) ?_
      refine jv_iload (jv_dk t_L_law_20 (k := 10) rfl) rfl ?_
      refine jv_iconst (v := 1) (jv_dk t_L_law_20 (k := 11) rfl) (by decide) ?_
      refine jv_iadd (jv_dk t_L_law_20 (k := 12) rfl) ?_
      refine jv_xI (jv_dk t_L_law_20 (k := 13) rfl) (fun v266 => ?_)
      refine jv_aload_n (jv_dk t_L_law_20 (k := 14) rfl) rfl rfl (Or.inr ⟨_, rfl⟩) ?_
      refine jv_iload (jv_dk t_L_law_20 (k := 15) rfl) rfl ?_
      refine jv_iconst (v := 2) (jv_dk t_L_law_20 (k := 16) rfl) (by decide) ?_
      refine jv_iadd (jv_dk t_L_law_20 (k := 17) rfl) ?_
      refine jv_xI (jv_dk t_L_law_20 (k := 18) rfl) (fun v267 => ?_)
      refine jv_callV (en' := jeI) (pv := jpI) (As := [.int (v266), .int (v267)]) (S := []) (jv_dk t_L_law_20 (k := 19) rfl) (fun _ => rfl) (Or.inl lk_L_118) me_X13_mounted mv_X13_mounted ⟨by decide, by decide⟩ rfl rfl rfl (Nat.le_of_ble_eq_true rfl) (P_X13_mounted X x2 v266 v267 h265) (fun v268 h269 => ?_)
      show jv_O X M_L_law _ jeI 925 [some (.ref (jv_ad X 13)), some (.ref (x1)), some (.ref (x2)), some (.ref (x3)), some (.int (x4)), some (.int (v264)), none] [.int (v268)] h269 _
      refine jv_istore (L' := [some (.ref (jv_ad X 13)), some (.ref (x1)), some (.ref (x2)), some (.ref (x3)), some (.int (x4)), some (.int (v264)), some (.int (v268))]) (jv_dk t_L_law_20 (k := 20) rfl) (Nat.le_of_ble_eq_true rfl) rfl ?_
      refine jv_aload_n (jv_dk t_L_law_20 (k := 21) rfl) rfl rfl (Or.inr ⟨_, rfl⟩) ?_
      refine jv_callV (en' := jeI) (pv := jpI) (As := []) (S := []) (jv_dk t_L_law_20 (k := 22) rfl) (fun _ => rfl) (Or.inl lk_L_82) me_X13_thrown mv_X13_thrown ⟨by decide, by decide⟩ rfl rfl rfl (Nat.le_of_ble_eq_true rfl) (P_X13_thrown X x2 h269) (fun v270 h271 => ?_)
      show jv_O X M_L_law _ jeI 931 [some (.ref (jv_ad X 13)), some (.ref (x1)), some (.ref (x2)), some (.ref (x3)), some (.int (x4)), some (.int (v264)), some (.int (v268))] [.int (v270)] h271 _
      refine jv_iload (jv_dk t_L_law_20 (k := 23) rfl) rfl ?_
      refine jv_icmp_eq (tgt := 938) (jv_dk t_L_law_20 (k := 24) rfl) rfl (fun c272 => ?_) (fun c272 => ?_)
      · refine jv_iload (jv_dk t_L_law_21 (k := 2) rfl) rfl ?_
        refine jv_if_ne (tgt := 955) (jv_dk t_L_law_21 (k := 3) rfl) rfl (fun c273 => ?_) (fun c273 => ?_)
        · refine jv_goto (tgt := 1929) (jv_dk t_L_law_21 (k := 13) rfl) rfl ?_
          refine jv_iinc (v := 6) (L' := [some (.ref (jv_ad X 13)), some (.ref (x1)), some (.ref (x2)), some (.ref (x3)), some (.int (x4 + 6)), some (.int (v264)), some (.int (v268))]) (jv_dk t_L_law_48 (k := 3) rfl) rfl (by decide) rfl ?_
          refine jv_goto (tgt := 23) (jv_dk t_L_law_48 (k := 4) rfl) rfl ?_
          refine jv_le_row (jv_le_s (jv_le_s (jv_le_s (jv_le_s (jv_le_s (jv_le_n (jv_le_n (jv_le_nil)))))))) ?_
          exact hR23 _ _ _ _ _ 
        · show jv_O _ _ _ _ 943 _ _ _ _
          refine jv_aload_n (jv_dk t_L_law_21 (k := 4) rfl) rfl rfl (Or.inr ⟨_, rfl⟩) ?_
          refine jv_iconst (v := 0) (jv_dk t_L_law_21 (k := 5) rfl) (by decide) ?_
          refine jv_laload (jv_dk t_L_law_21 (k := 6) rfl) (fun v274 => ?_)
          refine jv_iload (jv_dk t_L_law_21 (k := 7) rfl) rfl ?_
          refine jv_i2l (jv_dk t_L_law_21 (k := 8) rfl) ?_
          refine jv_lcmp (jv_dk t_L_law_21 (k := 9) rfl) ?_
          refine jv_if_eq (tgt := 955) (jv_dk t_L_law_21 (k := 10) rfl) rfl (fun c275 => ?_) (fun c275 => ?_)
          · refine jv_goto (tgt := 1929) (jv_dk t_L_law_21 (k := 13) rfl) rfl ?_
            refine jv_iinc (v := 6) (L' := [some (.ref (jv_ad X 13)), some (.ref (x1)), some (.ref (x2)), some (.ref (x3)), some (.int (x4 + 6)), some (.int (v264)), some (.int (v268))]) (jv_dk t_L_law_48 (k := 3) rfl) rfl (by decide) rfl ?_
            refine jv_goto (tgt := 23) (jv_dk t_L_law_48 (k := 4) rfl) rfl ?_
            refine jv_le_row (jv_le_s (jv_le_s (jv_le_s (jv_le_s (jv_le_s (jv_le_n (jv_le_n (jv_le_nil)))))))) ?_
            exact hR23 _ _ _ _ _ 
          · show jv_O _ _ _ _ 953 _ _ _ _
            refine jv_iconst (v := 0) (jv_dk t_L_law_21 (k := 11) rfl) (by decide) ?_
            exact jv_iret (ty := .boolean) (jv_dk t_L_law_21 (k := 12) rfl) rfl rfl rfl
      · show jv_O _ _ _ _ 936 _ _ _ _
        refine jv_iconst (v := 0) (jv_dk t_L_law_21 (k := 0) rfl) (by decide) ?_
        exact jv_iret (ty := .boolean) (jv_dk t_L_law_21 (k := 1) rfl) rfl rfl rfl
    rw [if_neg c22]
    by_cases c23 : (v10 &&& 63) = 12
    · rw [if_pos c23]
      refine jv_tbl (tgt := 958) (jv_dk t_L_law_0 (k := 24) rfl) (by rw [c23] <;> decide) (by rw [c23] <;> decide) (by rw [c23] <;> rfl) rfl ?_
      refine jv_aload_n (jv_dk t_L_law_21 (k := 14) rfl) rfl rfl (Or.inr ⟨_, rfl⟩) ?_
      refine jv_aload_n (jv_dk t_L_law_21 (k := 15) rfl) rfl rfl (Or.inr ⟨_, rfl⟩) ?_
      refine jv_iload (jv_dk t_L_law_21 (k := 16) rfl) rfl ?_
      refine jv_iconst (v := 1) (jv_dk t_L_law_21 (k := 17) rfl) (by decide) ?_
      refine jv_iadd (jv_dk t_L_law_21 (k := 18) rfl) ?_
      refine jv_xI (jv_dk t_L_law_21 (k := 19) rfl) (fun v246 => ?_)
      refine jv_aload_n (jv_dk t_L_law_21 (k := 20) rfl) rfl rfl (Or.inr ⟨_, rfl⟩) ?_
      refine jv_iload (jv_dk t_L_law_21 (k := 21) rfl) rfl ?_
      refine jv_iconst (v := 2) (jv_dk t_L_law_21 (k := 22) rfl) (by decide) ?_
      refine jv_iadd (jv_dk t_L_law_21 (k := 23) rfl) ?_
      refine jv_xI (jv_dk t_L_law_21 (k := 24) rfl) (fun v247 => ?_)
      refine jv_aload_n (jv_dk t_L_law_22 (k := 0) rfl) rfl rfl (Or.inr ⟨_, rfl⟩) ?_
      refine jv_iload (jv_dk t_L_law_22 (k := 1) rfl) rfl ?_
      refine jv_iconst (v := 3) (jv_dk t_L_law_22 (k := 2) rfl) (by decide) ?_
      refine jv_iadd (jv_dk t_L_law_22 (k := 3) rfl) ?_
      refine jv_xI (jv_dk t_L_law_22 (k := 4) rfl) (fun v248 => ?_)
      refine jv_aload_n (jv_dk t_L_law_22 (k := 5) rfl) rfl rfl (Or.inr ⟨_, rfl⟩) ?_
      refine jv_callH (en' := jeI) (pv := jpI) (As := [.ref (x1), .int (v246), .int (v247), .int (v248), .ref (x3)]) (S := []) (jv_dk t_L_law_22 (k := 6) rfl) (fun _ => rfl) lk_L_119 me_L_may ms_L_may ⟨by decide, by decide⟩ rfl rfl (Nat.le_of_ble_eq_true rfl) (P_L_may X x1 v246 v247 v248 x3 h) (fun v249 h250 => ?_)
      show jv_O X M_L_law _ jeI 981 [some (.ref (jv_ad X 13)), some (.ref (x1)), some (.ref (x2)), some (.ref (x3)), some (.int (x4)), none, none] [.int (v249)] h250 _
      refine jv_istore (L' := [some (.ref (jv_ad X 13)), some (.ref (x1)), some (.ref (x2)), some (.ref (x3)), some (.int (x4)), some (.int (v249)), none]) (jv_dk t_L_law_22 (k := 7) rfl) (Nat.le_of_ble_eq_true rfl) rfl ?_
      refine jv_aload_n (jv_dk t_L_law_22 (k := 8) rfl) rfl rfl (Or.inr ⟨_, rfl⟩) ?_
      refine jv_aload_n (jv_dk t_L_law_22 (k := 9) rfl) rfl rfl (Or.inr ⟨_, rfl⟩) ?_
      refine jv_iload (jv_dk t_L_law_22 (k := 10) rfl) rfl ?_
      refine jv_iconst (v := 1) (jv_dk t_L_law_22 (k := 11) rfl) (by decide) ?_
      refine jv_iadd (jv_dk t_L_law_22 (k := 12) rfl) ?_
      refine jv_xI (jv_dk t_L_law_22 (k := 13) rfl) (fun v251 => ?_)
      refine jv_aload_n (jv_dk t_L_law_22 (k := 14) rfl) rfl rfl (Or.inr ⟨_, rfl⟩) ?_
      refine jv_iload (jv_dk t_L_law_22 (k := 15) rfl) rfl ?_
      refine jv_iconst (v := 2) (jv_dk t_L_law_22 (k := 16) rfl) (by decide) ?_
      refine jv_iadd (jv_dk t_L_law_22 (k := 17) rfl) ?_
      refine jv_xI (jv_dk t_L_law_22 (k := 18) rfl) (fun v252 => ?_)
      refine jv_aload_n (jv_dk t_L_law_22 (k := 19) rfl) rfl rfl (Or.inr ⟨_, rfl⟩) ?_
      refine jv_iload (jv_dk t_L_law_22 (k := 20) rfl) rfl ?_
      refine jv_iconst (v := 3) (jv_dk t_L_law_22 (k := 21) rfl) (by decide) ?_
      refine jv_iadd (jv_dk t_L_law_22 (k := 22) rfl) ?_
      refine jv_xI (jv_dk t_L_law_22 (k := 23) rfl) (fun v253 => ?_)
      refine jv_callV (en' := jeI) (pv := jpI) (As := [.int (v251), .int (v252), .int (v253)]) (S := []) (jv_dk t_L_law_22 (k := 24) rfl) (fun _ => rfl) (Or.inl lk_L_121) me_X13_may mv_X13_may ⟨by decide, by decide⟩ rfl rfl rfl (Nat.le_of_ble_eq_true rfl) (P_X13_may X x2 v251 v252 v253 h250) (fun v254 h255 => ?_)
      show jv_O X M_L_law _ jeI 1005 [some (.ref (jv_ad X 13)), some (.ref (x1)), some (.ref (x2)), some (.ref (x3)), some (.int (x4)), some (.int (v249)), none] [.int (v254)] h255 _
      refine jv_istore (L' := [some (.ref (jv_ad X 13)), some (.ref (x1)), some (.ref (x2)), some (.ref (x3)), some (.int (x4)), some (.int (v249)), some (.int (v254))]) (jv_dk t_L_law_23 (k := 0) rfl) (Nat.le_of_ble_eq_true rfl) rfl ?_
      refine jv_aload_n (jv_dk t_L_law_23 (k := 1) rfl) rfl rfl (Or.inr ⟨_, rfl⟩) ?_
      refine jv_callV (en' := jeI) (pv := jpI) (As := []) (S := []) (jv_dk t_L_law_23 (k := 2) rfl) (fun _ => rfl) (Or.inl lk_L_82) me_X13_thrown mv_X13_thrown ⟨by decide, by decide⟩ rfl rfl rfl (Nat.le_of_ble_eq_true rfl) (P_X13_thrown X x2 h255) (fun v256 h257 => ?_)
      show jv_O X M_L_law _ jeI 1011 [some (.ref (jv_ad X 13)), some (.ref (x1)), some (.ref (x2)), some (.ref (x3)), some (.int (x4)), some (.int (v249)), some (.int (v254))] [.int (v256)] h257 _
      refine jv_iload (jv_dk t_L_law_23 (k := 3) rfl) rfl ?_
      refine jv_icmp_eq (tgt := 1018) (jv_dk t_L_law_23 (k := 4) rfl) rfl (fun c258 => ?_) (fun c258 => ?_)
      · refine jv_iload (jv_dk t_L_law_23 (k := 7) rfl) rfl ?_
        refine jv_if_ne (tgt := 1035) (jv_dk t_L_law_23 (k := 8) rfl) rfl (fun c259 => ?_) (fun c259 => ?_)
        · refine jv_goto (tgt := 1929) (jv_dk t_L_law_23 (k := 18) rfl) rfl ?_
          refine jv_iinc (v := 6) (L' := [some (.ref (jv_ad X 13)), some (.ref (x1)), some (.ref (x2)), some (.ref (x3)), some (.int (x4 + 6)), some (.int (v249)), some (.int (v254))]) (jv_dk t_L_law_48 (k := 3) rfl) rfl (by decide) rfl ?_
          refine jv_goto (tgt := 23) (jv_dk t_L_law_48 (k := 4) rfl) rfl ?_
          refine jv_le_row (jv_le_s (jv_le_s (jv_le_s (jv_le_s (jv_le_s (jv_le_n (jv_le_n (jv_le_nil)))))))) ?_
          exact hR23 _ _ _ _ _ 
        · show jv_O _ _ _ _ 1023 _ _ _ _
          refine jv_aload_n (jv_dk t_L_law_23 (k := 9) rfl) rfl rfl (Or.inr ⟨_, rfl⟩) ?_
          refine jv_iconst (v := 0) (jv_dk t_L_law_23 (k := 10) rfl) (by decide) ?_
          refine jv_laload (jv_dk t_L_law_23 (k := 11) rfl) (fun v260 => ?_)
          refine jv_iload (jv_dk t_L_law_23 (k := 12) rfl) rfl ?_
          refine jv_i2l (jv_dk t_L_law_23 (k := 13) rfl) ?_
          refine jv_lcmp (jv_dk t_L_law_23 (k := 14) rfl) ?_
          refine jv_if_eq (tgt := 1035) (jv_dk t_L_law_23 (k := 15) rfl) rfl (fun c261 => ?_) (fun c261 => ?_)
          · refine jv_goto (tgt := 1929) (jv_dk t_L_law_23 (k := 18) rfl) rfl ?_
            refine jv_iinc (v := 6) (L' := [some (.ref (jv_ad X 13)), some (.ref (x1)), some (.ref (x2)), some (.ref (x3)), some (.int (x4 + 6)), some (.int (v249)), some (.int (v254))]) (jv_dk t_L_law_48 (k := 3) rfl) rfl (by decide) rfl ?_
            refine jv_goto (tgt := 23) (jv_dk t_L_law_48 (k := 4) rfl) rfl ?_
            refine jv_le_row (jv_le_s (jv_le_s (jv_le_s (jv_le_s (jv_le_s (jv_le_n (jv_le_n (jv_le_nil)))))))) ?_
            exact hR23 _ _ _ _ _ 
          · show jv_O _ _ _ _ 1033 _ _ _ _
            refine jv_iconst (v := 0) (jv_dk t_L_law_23 (k := 16) rfl) (by decide) ?_
            exact jv_iret (ty := .boolean) (jv_dk t_L_law_23 (k := 17) rfl) rfl rfl rfl
      · show jv_O _ _ _ _ 1016 _ _ _ _
        refine jv_iconst (v := 0) (jv_dk t_L_law_23 (k := 5) rfl) (by decide) ?_
        exact jv_iret (ty := .boolean) (jv_dk t_L_law_23 (k := 6) rfl) rfl rfl rfl
    rw [if_neg c23]
    by_cases c24 : (v10 &&& 63) = 13
    · rw [if_pos c24]
      refine jv_tbl (tgt := 1038) (jv_dk t_L_law_0 (k := 24) rfl) (by rw [c24] <;> decide) (by rw [c24] <;> decide) (by rw [c24] <;> rfl) rfl ?_
      refine jv_aload_n (jv_dk t_L_law_23 (k := 19) rfl) rfl rfl (Or.inr ⟨_, rfl⟩) ?_
      refine jv_aload_n (jv_dk t_L_law_23 (k := 20) rfl) rfl rfl (Or.inr ⟨_, rfl⟩) ?_
      refine jv_iload (jv_dk t_L_law_23 (k := 21) rfl) rfl ?_
      refine jv_iconst (v := 1) (jv_dk t_L_law_23 (k := 22) rfl) (by decide) ?_
      refine jv_iadd (jv_dk t_L_law_23 (k := 23) rfl) ?_
      refine jv_xI (jv_dk t_L_law_23 (k := 24) rfl) (fun v232 => ?_)
      refine jv_aload_n (jv_dk t_L_law_24 (k := 0) rfl) rfl rfl (Or.inr ⟨_, rfl⟩) ?_
      refine jv_iload (jv_dk t_L_law_24 (k := 1) rfl) rfl ?_
      refine jv_iconst (v := 2) (jv_dk t_L_law_24 (k := 2) rfl) (by decide) ?_
      refine jv_iadd (jv_dk t_L_law_24 (k := 3) rfl) ?_
      refine jv_xI (jv_dk t_L_law_24 (k := 4) rfl) (fun v233 => ?_)
      refine jv_aload_n (jv_dk t_L_law_24 (k := 5) rfl) rfl rfl (Or.inr ⟨_, rfl⟩) ?_
      refine jv_callH (en' := jeI) (pv := jpI) (As := [.ref (x1), .int (v232), .int (v233), .ref (x3)]) (S := []) (jv_dk t_L_law_24 (k := 6) rfl) (fun _ => rfl) lk_L_122 me_L_over ms_L_over ⟨by decide, by decide⟩ rfl rfl (Nat.le_of_ble_eq_true rfl) (P_L_over X x1 v232 v233 x3 h) (fun v234 h235 => ?_)
      show jv_O X M_L_law _ jeI 1055 [some (.ref (jv_ad X 13)), some (.ref (x1)), some (.ref (x2)), some (.ref (x3)), some (.int (x4)), none, none] [.int (v234)] h235 _
      refine jv_istore (L' := [some (.ref (jv_ad X 13)), some (.ref (x1)), some (.ref (x2)), some (.ref (x3)), some (.int (x4)), some (.int (v234)), none]) (jv_dk t_L_law_24 (k := 7) rfl) (Nat.le_of_ble_eq_true rfl) rfl ?_
      refine jv_aload_n (jv_dk t_L_law_24 (k := 8) rfl) rfl rfl (Or.inr ⟨_, rfl⟩) ?_
      refine jv_aload_n (jv_dk t_L_law_24 (k := 9) rfl) rfl rfl (Or.inr ⟨_, rfl⟩) ?_
      refine jv_iload (jv_dk t_L_law_24 (k := 10) rfl) rfl ?_
      refine jv_iconst (v := 1) (jv_dk t_L_law_24 (k := 11) rfl) (by decide) ?_
      refine jv_iadd (jv_dk t_L_law_24 (k := 12) rfl) ?_
      refine jv_xI (jv_dk t_L_law_24 (k := 13) rfl) (fun v236 => ?_)
      refine jv_aload_n (jv_dk t_L_law_24 (k := 14) rfl) rfl rfl (Or.inr ⟨_, rfl⟩) ?_
      refine jv_iload (jv_dk t_L_law_24 (k := 15) rfl) rfl ?_
      refine jv_iconst (v := 2) (jv_dk t_L_law_24 (k := 16) rfl) (by decide) ?_
      refine jv_iadd (jv_dk t_L_law_24 (k := 17) rfl) ?_
      refine jv_xI (jv_dk t_L_law_24 (k := 18) rfl) (fun v237 => ?_)
      refine jv_callV (en' := jeI) (pv := jpI) (As := [.int (v236), .int (v237)]) (S := []) (jv_dk t_L_law_24 (k := 19) rfl) (fun _ => rfl) (Or.inl lk_L_124) me_X13_over mv_X13_over ⟨by decide, by decide⟩ rfl rfl rfl (Nat.le_of_ble_eq_true rfl) (P_X13_over X x2 v236 v237 h235) (fun v238 h239 => ?_)
      show jv_O X M_L_law _ jeI 1073 [some (.ref (jv_ad X 13)), some (.ref (x1)), some (.ref (x2)), some (.ref (x3)), some (.int (x4)), some (.int (v234)), none] [.int (v238)] h239 _
      refine jv_istore (L' := [some (.ref (jv_ad X 13)), some (.ref (x1)), some (.ref (x2)), some (.ref (x3)), some (.int (x4)), some (.int (v234)), some (.int (v238))]) (jv_dk t_L_law_24 (k := 20) rfl) (Nat.le_of_ble_eq_true rfl) rfl ?_
      refine jv_aload_n (jv_dk t_L_law_24 (k := 21) rfl) rfl rfl (Or.inr ⟨_, rfl⟩) ?_
      refine jv_callV (en' := jeI) (pv := jpI) (As := []) (S := []) (jv_dk t_L_law_24 (k := 22) rfl) (fun _ => rfl) (Or.inl lk_L_82) me_X13_thrown mv_X13_thrown ⟨by decide, by decide⟩ rfl rfl rfl (Nat.le_of_ble_eq_true rfl) (P_X13_thrown X x2 h239) (fun v240 h241 => ?_)
      show jv_O X M_L_law _ jeI 1079 [some (.ref (jv_ad X 13)), some (.ref (x1)), some (.ref (x2)), some (.ref (x3)), some (.int (x4)), some (.int (v234)), some (.int (v238))] [.int (v240)] h241 _
      refine jv_iload (jv_dk t_L_law_24 (k := 23) rfl) rfl ?_
      refine jv_icmp_eq (tgt := 1086) (jv_dk t_L_law_24 (k := 24) rfl) rfl (fun c242 => ?_) (fun c242 => ?_)
      · refine jv_iload (jv_dk t_L_law_25 (k := 2) rfl) rfl ?_
        refine jv_if_ne (tgt := 1103) (jv_dk t_L_law_25 (k := 3) rfl) rfl (fun c243 => ?_) (fun c243 => ?_)
        · refine jv_goto (tgt := 1929) (jv_dk t_L_law_25 (k := 13) rfl) rfl ?_
          refine jv_iinc (v := 6) (L' := [some (.ref (jv_ad X 13)), some (.ref (x1)), some (.ref (x2)), some (.ref (x3)), some (.int (x4 + 6)), some (.int (v234)), some (.int (v238))]) (jv_dk t_L_law_48 (k := 3) rfl) rfl (by decide) rfl ?_
          refine jv_goto (tgt := 23) (jv_dk t_L_law_48 (k := 4) rfl) rfl ?_
          refine jv_le_row (jv_le_s (jv_le_s (jv_le_s (jv_le_s (jv_le_s (jv_le_n (jv_le_n (jv_le_nil)))))))) ?_
          exact hR23 _ _ _ _ _ 
        · show jv_O _ _ _ _ 1091 _ _ _ _
          refine jv_aload_n (jv_dk t_L_law_25 (k := 4) rfl) rfl rfl (Or.inr ⟨_, rfl⟩) ?_
          refine jv_iconst (v := 0) (jv_dk t_L_law_25 (k := 5) rfl) (by decide) ?_
          refine jv_laload (jv_dk t_L_law_25 (k := 6) rfl) (fun v244 => ?_)
          refine jv_iload (jv_dk t_L_law_25 (k := 7) rfl) rfl ?_
          refine jv_i2l (jv_dk t_L_law_25 (k := 8) rfl) ?_
          refine jv_lcmp (jv_dk t_L_law_25 (k := 9) rfl) ?_
          refine jv_if_eq (tgt := 1103) (jv_dk t_L_law_25 (k := 10) rfl) rfl (fun c245 => ?_) (fun c245 => ?_)
          · refine jv_goto (tgt := 1929) (jv_dk t_L_law_25 (k := 13) rfl) rfl ?_
            refine jv_iinc (v := 6) (L' := [some (.ref (jv_ad X 13)), some (.ref (x1)), some (.ref (x2)), some (.ref (x3)), some (.int (x4 + 6)), some (.int (v234)), some (.int (v238))]) (jv_dk t_L_law_48 (k := 3) rfl) rfl (by decide) rfl ?_
            refine jv_goto (tgt := 23) (jv_dk t_L_law_48 (k := 4) rfl) rfl ?_
            refine jv_le_row (jv_le_s (jv_le_s (jv_le_s (jv_le_s (jv_le_s (jv_le_n (jv_le_n (jv_le_nil)))))))) ?_
            exact hR23 _ _ _ _ _ 
          · show jv_O _ _ _ _ 1101 _ _ _ _
            refine jv_iconst (v := 0) (jv_dk t_L_law_25 (k := 11) rfl) (by decide) ?_
            exact jv_iret (ty := .boolean) (jv_dk t_L_law_25 (k := 12) rfl) rfl rfl rfl
      · show jv_O _ _ _ _ 1084 _ _ _ _
        refine jv_iconst (v := 0) (jv_dk t_L_law_25 (k := 0) rfl) (by decide) ?_
        exact jv_iret (ty := .boolean) (jv_dk t_L_law_25 (k := 1) rfl) rfl rfl rfl
    rw [if_neg c24]
    by_cases c25 : (v10 &&& 63) = 14
    · rw [if_pos c25]
      refine jv_tbl (tgt := 1106) (jv_dk t_L_law_0 (k := 24) rfl) (by rw [c25] <;> decide) (by rw [c25] <;> decide) (by rw [c25] <;> rfl) rfl ?_
      refine jv_aload_n (jv_dk t_L_law_25 (k := 14) rfl) rfl rfl (Or.inr ⟨_, rfl⟩) ?_
      refine jv_aload_n (jv_dk t_L_law_25 (k := 15) rfl) rfl rfl (Or.inr ⟨_, rfl⟩) ?_
      refine jv_iload (jv_dk t_L_law_25 (k := 16) rfl) rfl ?_
      refine jv_iconst (v := 1) (jv_dk t_L_law_25 (k := 17) rfl) (by decide) ?_
      refine jv_iadd (jv_dk t_L_law_25 (k := 18) rfl) ?_
      refine jv_xI (jv_dk t_L_law_25 (k := 19) rfl) (fun v225 => ?_)
      refine jv_callV (en' := jeI) (pv := jpI) (As := [.int (v225)]) (S := []) (jv_dk t_L_law_25 (k := 20) rfl) (fun _ => rfl) (Or.inl lk_L_125) me_X12_fork mv_X12_fork ⟨by decide, by decide⟩ rfl rfl rfl (Nat.le_of_ble_eq_true rfl) (P_X12_fork X x1 v225 h) (fun v226 h227 => ?_)
      show jv_O X M_L_law _ jeI 1116 [some (.ref (jv_ad X 13)), some (.ref (x1)), some (.ref (x2)), some (.ref (x3)), some (.int (x4)), none, none] [.int (v226)] h227 _
      refine jv_aload_n (jv_dk t_L_law_25 (k := 21) rfl) rfl rfl (Or.inr ⟨_, rfl⟩) ?_
      refine jv_aload_n (jv_dk t_L_law_25 (k := 22) rfl) rfl rfl (Or.inr ⟨_, rfl⟩) ?_
      refine jv_iload (jv_dk t_L_law_25 (k := 23) rfl) rfl ?_
      refine jv_iconst (v := 1) (jv_dk t_L_law_25 (k := 24) rfl) (by decide) ?_
      refine jv_iadd (jv_dk t_L_law_26 (k := 0) rfl) ?_
      refine jv_xI (jv_dk t_L_law_26 (k := 1) rfl) (fun v228 => ?_)
      refine jv_callV (en' := jeI) (pv := jpI) (As := [.int (v228)]) (S := [.int (v226)]) (jv_dk t_L_law_26 (k := 2) rfl) (fun _ => rfl) (Or.inl lk_L_128) me_X13_fork mv_X13_fork ⟨by decide, by decide⟩ rfl rfl rfl (Nat.le_of_ble_eq_true rfl) (P_X13_fork X x2 v228 h227) (fun v229 h230 => ?_)
      show jv_O X M_L_law _ jeI 1126 [some (.ref (jv_ad X 13)), some (.ref (x1)), some (.ref (x2)), some (.ref (x3)), some (.int (x4)), none, none] [.int (v229), .int (v226)] h230 _
      refine jv_icmp_eq (tgt := 1929) (jv_dk t_L_law_26 (k := 3) rfl) rfl (fun c231 => ?_) (fun c231 => ?_)
      · refine jv_iinc (v := 6) (L' := [some (.ref (jv_ad X 13)), some (.ref (x1)), some (.ref (x2)), some (.ref (x3)), some (.int (x4 + 6)), none, none]) (jv_dk t_L_law_48 (k := 3) rfl) rfl (by decide) rfl ?_
        refine jv_goto (tgt := 23) (jv_dk t_L_law_48 (k := 4) rfl) rfl ?_
        exact hR23 _ _ _ _ _ 
      · show jv_O _ _ _ _ 1129 _ _ _ _
        refine jv_iconst (v := 0) (jv_dk t_L_law_26 (k := 4) rfl) (by decide) ?_
        exact jv_iret (ty := .boolean) (jv_dk t_L_law_26 (k := 5) rfl) rfl rfl rfl
    rw [if_neg c25]
    by_cases c26 : (v10 &&& 63) = 15
    · rw [if_pos c26]
      refine jv_tbl (tgt := 1131) (jv_dk t_L_law_0 (k := 24) rfl) (by rw [c26] <;> decide) (by rw [c26] <;> decide) (by rw [c26] <;> rfl) rfl ?_
      refine jv_aload_n (jv_dk t_L_law_26 (k := 6) rfl) rfl rfl (Or.inr ⟨_, rfl⟩) ?_
      refine jv_aload_n (jv_dk t_L_law_26 (k := 7) rfl) rfl rfl (Or.inr ⟨_, rfl⟩) ?_
      refine jv_iload (jv_dk t_L_law_26 (k := 8) rfl) rfl ?_
      refine jv_iconst (v := 1) (jv_dk t_L_law_26 (k := 9) rfl) (by decide) ?_
      refine jv_iadd (jv_dk t_L_law_26 (k := 10) rfl) ?_
      refine jv_xI (jv_dk t_L_law_26 (k := 11) rfl) (fun v216 => ?_)
      refine jv_aload_n (jv_dk t_L_law_26 (k := 12) rfl) rfl rfl (Or.inr ⟨_, rfl⟩) ?_
      refine jv_iload (jv_dk t_L_law_26 (k := 13) rfl) rfl ?_
      refine jv_iconst (v := 2) (jv_dk t_L_law_26 (k := 14) rfl) (by decide) ?_
      refine jv_iadd (jv_dk t_L_law_26 (k := 15) rfl) ?_
      refine jv_xI (jv_dk t_L_law_26 (k := 16) rfl) (fun v217 => ?_)
      refine jv_callV (en' := jeI) (pv := jpI) (As := [.int (v216), .int (v217)]) (S := []) (jv_dk t_L_law_26 (k := 17) rfl) (fun _ => rfl) (Or.inl lk_L_129) me_X12_create mv_X12_create ⟨by decide, by decide⟩ rfl rfl rfl (Nat.le_of_ble_eq_true rfl) (P_X12_create X x1 v216 v217 h) (fun v218 h219 => ?_)
      show jv_O X M_L_law _ jeI 1147 [some (.ref (jv_ad X 13)), some (.ref (x1)), some (.ref (x2)), some (.ref (x3)), some (.int (x4)), none, none] [.int (v218)] h219 _
      refine jv_aload_n (jv_dk t_L_law_26 (k := 18) rfl) rfl rfl (Or.inr ⟨_, rfl⟩) ?_
      refine jv_aload_n (jv_dk t_L_law_26 (k := 19) rfl) rfl rfl (Or.inr ⟨_, rfl⟩) ?_
      refine jv_iload (jv_dk t_L_law_26 (k := 20) rfl) rfl ?_
      refine jv_iconst (v := 1) (jv_dk t_L_law_26 (k := 21) rfl) (by decide) ?_
      refine jv_iadd (jv_dk t_L_law_26 (k := 22) rfl) ?_
      refine jv_xI (jv_dk t_L_law_26 (k := 23) rfl) (fun v220 => ?_)
      refine jv_aload_n (jv_dk t_L_law_26 (k := 24) rfl) rfl rfl (Or.inr ⟨_, rfl⟩) ?_
      refine jv_iload (jv_dk t_L_law_27 (k := 0) rfl) rfl ?_
      refine jv_iconst (v := 2) (jv_dk t_L_law_27 (k := 1) rfl) (by decide) ?_
      refine jv_iadd (jv_dk t_L_law_27 (k := 2) rfl) ?_
      refine jv_xI (jv_dk t_L_law_27 (k := 3) rfl) (fun v221 => ?_)
      refine jv_callV (en' := jeI) (pv := jpI) (As := [.int (v220), .int (v221)]) (S := [.int (v218)]) (jv_dk t_L_law_27 (k := 4) rfl) (fun _ => rfl) (Or.inl lk_L_132) me_X13_create mv_X13_create ⟨by decide, by decide⟩ rfl rfl rfl (Nat.le_of_ble_eq_true rfl) (P_X13_create X x2 v220 v221 h219) (fun v222 h223 => ?_)
      show jv_O X M_L_law _ jeI 1163 [some (.ref (jv_ad X 13)), some (.ref (x1)), some (.ref (x2)), some (.ref (x3)), some (.int (x4)), none, none] [.int (v222), .int (v218)] h223 _
      refine jv_icmp_eq (tgt := 1929) (jv_dk t_L_law_27 (k := 5) rfl) rfl (fun c224 => ?_) (fun c224 => ?_)
      · refine jv_iinc (v := 6) (L' := [some (.ref (jv_ad X 13)), some (.ref (x1)), some (.ref (x2)), some (.ref (x3)), some (.int (x4 + 6)), none, none]) (jv_dk t_L_law_48 (k := 3) rfl) rfl (by decide) rfl ?_
        refine jv_goto (tgt := 23) (jv_dk t_L_law_48 (k := 4) rfl) rfl ?_
        exact hR23 _ _ _ _ _ 
      · show jv_O _ _ _ _ 1166 _ _ _ _
        refine jv_iconst (v := 0) (jv_dk t_L_law_27 (k := 6) rfl) (by decide) ?_
        exact jv_iret (ty := .boolean) (jv_dk t_L_law_27 (k := 7) rfl) rfl rfl rfl
    rw [if_neg c26]
    by_cases c27 : (v10 &&& 63) = 16
    · rw [if_pos c27]
      refine jv_tbl (tgt := 1168) (jv_dk t_L_law_0 (k := 24) rfl) (by rw [c27] <;> decide) (by rw [c27] <;> decide) (by rw [c27] <;> rfl) rfl ?_
      refine jv_aload_n (jv_dk t_L_law_27 (k := 8) rfl) rfl rfl (Or.inr ⟨_, rfl⟩) ?_
      refine jv_aload_n (jv_dk t_L_law_27 (k := 9) rfl) rfl rfl (Or.inr ⟨_, rfl⟩) ?_
      refine jv_iload (jv_dk t_L_law_27 (k := 10) rfl) rfl ?_
      refine jv_iconst (v := 1) (jv_dk t_L_law_27 (k := 11) rfl) (by decide) ?_
      refine jv_iadd (jv_dk t_L_law_27 (k := 12) rfl) ?_
      refine jv_xI (jv_dk t_L_law_27 (k := 13) rfl) (fun v201 => ?_)
      refine jv_aload_n (jv_dk t_L_law_27 (k := 14) rfl) rfl rfl (Or.inr ⟨_, rfl⟩) ?_
      refine jv_iload (jv_dk t_L_law_27 (k := 15) rfl) rfl ?_
      refine jv_iconst (v := 2) (jv_dk t_L_law_27 (k := 16) rfl) (by decide) ?_
      refine jv_iadd (jv_dk t_L_law_27 (k := 17) rfl) ?_
      refine jv_xI (jv_dk t_L_law_27 (k := 18) rfl) (fun v202 => ?_)
      refine jv_aload_n (jv_dk t_L_law_27 (k := 19) rfl) rfl rfl (Or.inr ⟨_, rfl⟩) ?_
      refine jv_iload (jv_dk t_L_law_27 (k := 20) rfl) rfl ?_
      refine jv_iconst (v := 3) (jv_dk t_L_law_27 (k := 21) rfl) (by decide) ?_
      refine jv_iadd (jv_dk t_L_law_27 (k := 22) rfl) ?_
      refine jv_xI (jv_dk t_L_law_27 (k := 23) rfl) (fun v203 => ?_)
      refine jv_aload_n (jv_dk t_L_law_27 (k := 24) rfl) rfl rfl (Or.inr ⟨_, rfl⟩) ?_
      refine jv_iload (jv_dk t_L_law_28 (k := 0) rfl) rfl ?_
      refine jv_iconst (v := 4) (jv_dk t_L_law_28 (k := 1) rfl) (by decide) ?_
      refine jv_iadd (jv_dk t_L_law_28 (k := 2) rfl) ?_
      refine jv_xI (jv_dk t_L_law_28 (k := 3) rfl) (fun v204 => ?_)
      refine jv_aload_n (jv_dk t_L_law_28 (k := 4) rfl) rfl rfl (Or.inr ⟨_, rfl⟩) ?_
      refine jv_iload (jv_dk t_L_law_28 (k := 5) rfl) rfl ?_
      refine jv_iconst (v := 5) (jv_dk t_L_law_28 (k := 6) rfl) (by decide) ?_
      refine jv_iadd (jv_dk t_L_law_28 (k := 7) rfl) ?_
      refine jv_xI (jv_dk t_L_law_28 (k := 8) rfl) (fun v205 => ?_)
      refine jv_callV (en' := jeI) (pv := jpI) (As := [.int (v201), .int (v202), .int (v203), .int (v204), .int (v205)]) (S := []) (jv_dk t_L_law_28 (k := 9) rfl) (fun _ => rfl) (Or.inl lk_L_133) me_X12_map mv_X12_map ⟨by decide, by decide⟩ rfl rfl rfl (Nat.le_of_ble_eq_true rfl) (P_X12_map X x1 v201 v202 v203 v204 v205 h) (fun v206 h207 => ?_)
      show jv_O X M_L_law _ jeI 1202 [some (.ref (jv_ad X 13)), some (.ref (x1)), some (.ref (x2)), some (.ref (x3)), some (.int (x4)), none, none] [.int (v206)] h207 _
      refine jv_aload_n (jv_dk t_L_law_28 (k := 10) rfl) rfl rfl (Or.inr ⟨_, rfl⟩) ?_
      refine jv_aload_n (jv_dk t_L_law_28 (k := 11) rfl) rfl rfl (Or.inr ⟨_, rfl⟩) ?_
      refine jv_iload (jv_dk t_L_law_28 (k := 12) rfl) rfl ?_
      refine jv_iconst (v := 1) (jv_dk t_L_law_28 (k := 13) rfl) (by decide) ?_
      refine jv_iadd (jv_dk t_L_law_28 (k := 14) rfl) ?_
      refine jv_xI (jv_dk t_L_law_28 (k := 15) rfl) (fun v208 => ?_)
      refine jv_aload_n (jv_dk t_L_law_28 (k := 16) rfl) rfl rfl (Or.inr ⟨_, rfl⟩) ?_
      refine jv_iload (jv_dk t_L_law_28 (k := 17) rfl) rfl ?_
      refine jv_iconst (v := 2) (jv_dk t_L_law_28 (k := 18) rfl) (by decide) ?_
      refine jv_iadd (jv_dk t_L_law_28 (k := 19) rfl) ?_
      refine jv_xI (jv_dk t_L_law_28 (k := 20) rfl) (fun v209 => ?_)
      refine jv_aload_n (jv_dk t_L_law_28 (k := 21) rfl) rfl rfl (Or.inr ⟨_, rfl⟩) ?_
      refine jv_iload (jv_dk t_L_law_28 (k := 22) rfl) rfl ?_
      refine jv_iconst (v := 3) (jv_dk t_L_law_28 (k := 23) rfl) (by decide) ?_
      refine jv_iadd (jv_dk t_L_law_28 (k := 24) rfl) ?_
      refine jv_xI (jv_dk t_L_law_29 (k := 0) rfl) (fun v210 => ?_)
      refine jv_aload_n (jv_dk t_L_law_29 (k := 1) rfl) rfl rfl (Or.inr ⟨_, rfl⟩) ?_
      refine jv_iload (jv_dk t_L_law_29 (k := 2) rfl) rfl ?_
      refine jv_iconst (v := 4) (jv_dk t_L_law_29 (k := 3) rfl) (by decide) ?_
      refine jv_iadd (jv_dk t_L_law_29 (k := 4) rfl) ?_
      refine jv_xI (jv_dk t_L_law_29 (k := 5) rfl) (fun v211 => ?_)
      refine jv_aload_n (jv_dk t_L_law_29 (k := 6) rfl) rfl rfl (Or.inr ⟨_, rfl⟩) ?_
      refine jv_iload (jv_dk t_L_law_29 (k := 7) rfl) rfl ?_
      refine jv_iconst (v := 5) (jv_dk t_L_law_29 (k := 8) rfl) (by decide) ?_
      refine jv_iadd (jv_dk t_L_law_29 (k := 9) rfl) ?_
      refine jv_xI (jv_dk t_L_law_29 (k := 10) rfl) (fun v212 => ?_)
      refine jv_callV (en' := jeI) (pv := jpI) (As := [.int (v208), .int (v209), .int (v210), .int (v211), .int (v212)]) (S := [.int (v206)]) (jv_dk t_L_law_29 (k := 11) rfl) (fun _ => rfl) (Or.inl lk_L_136) me_X13_map mv_X13_map ⟨by decide, by decide⟩ rfl rfl rfl (Nat.le_of_ble_eq_true rfl) (P_X13_map X x2 v208 v209 v210 v211 v212 h207) (fun v213 h214 => ?_)
      show jv_O X M_L_law _ jeI 1236 [some (.ref (jv_ad X 13)), some (.ref (x1)), some (.ref (x2)), some (.ref (x3)), some (.int (x4)), none, none] [.int (v213), .int (v206)] h214 _
      refine jv_icmp_eq (tgt := 1929) (jv_dk t_L_law_29 (k := 12) rfl) rfl (fun c215 => ?_) (fun c215 => ?_)
      · refine jv_iinc (v := 6) (L' := [some (.ref (jv_ad X 13)), some (.ref (x1)), some (.ref (x2)), some (.ref (x3)), some (.int (x4 + 6)), none, none]) (jv_dk t_L_law_48 (k := 3) rfl) rfl (by decide) rfl ?_
        refine jv_goto (tgt := 23) (jv_dk t_L_law_48 (k := 4) rfl) rfl ?_
        exact hR23 _ _ _ _ _ 
      · show jv_O _ _ _ _ 1239 _ _ _ _
        refine jv_iconst (v := 0) (jv_dk t_L_law_29 (k := 13) rfl) (by decide) ?_
        exact jv_iret (ty := .boolean) (jv_dk t_L_law_29 (k := 14) rfl) rfl rfl rfl
    rw [if_neg c27]
    by_cases c28 : (v10 &&& 63) = 17
    · rw [if_pos c28]
      refine jv_tbl (tgt := 1241) (jv_dk t_L_law_0 (k := 24) rfl) (by rw [c28] <;> decide) (by rw [c28] <;> decide) (by rw [c28] <;> rfl) rfl ?_
      refine jv_aload_n (jv_dk t_L_law_29 (k := 15) rfl) rfl rfl (Or.inr ⟨_, rfl⟩) ?_
      refine jv_aload_n (jv_dk t_L_law_29 (k := 16) rfl) rfl rfl (Or.inr ⟨_, rfl⟩) ?_
      refine jv_iload (jv_dk t_L_law_29 (k := 17) rfl) rfl ?_
      refine jv_iconst (v := 1) (jv_dk t_L_law_29 (k := 18) rfl) (by decide) ?_
      refine jv_iadd (jv_dk t_L_law_29 (k := 19) rfl) ?_
      refine jv_xI (jv_dk t_L_law_29 (k := 20) rfl) (fun v192 => ?_)
      refine jv_aload_n (jv_dk t_L_law_29 (k := 21) rfl) rfl rfl (Or.inr ⟨_, rfl⟩) ?_
      refine jv_iload (jv_dk t_L_law_29 (k := 22) rfl) rfl ?_
      refine jv_iconst (v := 2) (jv_dk t_L_law_29 (k := 23) rfl) (by decide) ?_
      refine jv_iadd (jv_dk t_L_law_29 (k := 24) rfl) ?_
      refine jv_xI (jv_dk t_L_law_30 (k := 0) rfl) (fun v193 => ?_)
      refine jv_callV (en' := jeI) (pv := jpI) (As := [.int (v192), .int (v193)]) (S := []) (jv_dk t_L_law_30 (k := 1) rfl) (fun _ => rfl) (Or.inl lk_L_137) me_X12_become mv_X12_become ⟨by decide, by decide⟩ rfl rfl rfl (Nat.le_of_ble_eq_true rfl) (P_X12_become X x1 v192 v193 h) (fun v194 h195 => ?_)
      show jv_O X M_L_law _ jeI 1257 [some (.ref (jv_ad X 13)), some (.ref (x1)), some (.ref (x2)), some (.ref (x3)), some (.int (x4)), none, none] [.int (v194)] h195 _
      refine jv_aload_n (jv_dk t_L_law_30 (k := 2) rfl) rfl rfl (Or.inr ⟨_, rfl⟩) ?_
      refine jv_aload_n (jv_dk t_L_law_30 (k := 3) rfl) rfl rfl (Or.inr ⟨_, rfl⟩) ?_
      refine jv_iload (jv_dk t_L_law_30 (k := 4) rfl) rfl ?_
      refine jv_iconst (v := 1) (jv_dk t_L_law_30 (k := 5) rfl) (by decide) ?_
      refine jv_iadd (jv_dk t_L_law_30 (k := 6) rfl) ?_
      refine jv_xI (jv_dk t_L_law_30 (k := 7) rfl) (fun v196 => ?_)
      refine jv_aload_n (jv_dk t_L_law_30 (k := 8) rfl) rfl rfl (Or.inr ⟨_, rfl⟩) ?_
      refine jv_iload (jv_dk t_L_law_30 (k := 9) rfl) rfl ?_
      refine jv_iconst (v := 2) (jv_dk t_L_law_30 (k := 10) rfl) (by decide) ?_
      refine jv_iadd (jv_dk t_L_law_30 (k := 11) rfl) ?_
      refine jv_xI (jv_dk t_L_law_30 (k := 12) rfl) (fun v197 => ?_)
      refine jv_callV (en' := jeI) (pv := jpI) (As := [.int (v196), .int (v197)]) (S := [.int (v194)]) (jv_dk t_L_law_30 (k := 13) rfl) (fun _ => rfl) (Or.inl lk_L_140) me_X13_become mv_X13_become ⟨by decide, by decide⟩ rfl rfl rfl (Nat.le_of_ble_eq_true rfl) (P_X13_become X x2 v196 v197 h195) (fun v198 h199 => ?_)
      show jv_O X M_L_law _ jeI 1273 [some (.ref (jv_ad X 13)), some (.ref (x1)), some (.ref (x2)), some (.ref (x3)), some (.int (x4)), none, none] [.int (v198), .int (v194)] h199 _
      refine jv_icmp_eq (tgt := 1929) (jv_dk t_L_law_30 (k := 14) rfl) rfl (fun c200 => ?_) (fun c200 => ?_)
      · refine jv_iinc (v := 6) (L' := [some (.ref (jv_ad X 13)), some (.ref (x1)), some (.ref (x2)), some (.ref (x3)), some (.int (x4 + 6)), none, none]) (jv_dk t_L_law_48 (k := 3) rfl) rfl (by decide) rfl ?_
        refine jv_goto (tgt := 23) (jv_dk t_L_law_48 (k := 4) rfl) rfl ?_
        exact hR23 _ _ _ _ _ 
      · show jv_O _ _ _ _ 1276 _ _ _ _
        refine jv_iconst (v := 0) (jv_dk t_L_law_30 (k := 15) rfl) (by decide) ?_
        exact jv_iret (ty := .boolean) (jv_dk t_L_law_30 (k := 16) rfl) rfl rfl rfl
    rw [if_neg c28]
    by_cases c29 : (v10 &&& 63) = 18
    · rw [if_pos c29]
      refine jv_tbl (tgt := 1278) (jv_dk t_L_law_0 (k := 24) rfl) (by rw [c29] <;> decide) (by rw [c29] <;> decide) (by rw [c29] <;> rfl) rfl ?_
      refine jv_aload_n (jv_dk t_L_law_30 (k := 17) rfl) rfl rfl (Or.inr ⟨_, rfl⟩) ?_
      refine jv_aload_n (jv_dk t_L_law_30 (k := 18) rfl) rfl rfl (Or.inr ⟨_, rfl⟩) ?_
      refine jv_iload (jv_dk t_L_law_30 (k := 19) rfl) rfl ?_
      refine jv_iconst (v := 1) (jv_dk t_L_law_30 (k := 20) rfl) (by decide) ?_
      refine jv_iadd (jv_dk t_L_law_30 (k := 21) rfl) ?_
      refine jv_xI (jv_dk t_L_law_30 (k := 22) rfl) (fun v181 => ?_)
      refine jv_aload_n (jv_dk t_L_law_30 (k := 23) rfl) rfl rfl (Or.inr ⟨_, rfl⟩) ?_
      refine jv_iload (jv_dk t_L_law_30 (k := 24) rfl) rfl ?_
      refine jv_iconst (v := 2) (jv_dk t_L_law_31 (k := 0) rfl) (by decide) ?_
      refine jv_iadd (jv_dk t_L_law_31 (k := 1) rfl) ?_
      refine jv_xI (jv_dk t_L_law_31 (k := 2) rfl) (fun v182 => ?_)
      refine jv_aload_n (jv_dk t_L_law_31 (k := 3) rfl) rfl rfl (Or.inr ⟨_, rfl⟩) ?_
      refine jv_iload (jv_dk t_L_law_31 (k := 4) rfl) rfl ?_
      refine jv_iconst (v := 3) (jv_dk t_L_law_31 (k := 5) rfl) (by decide) ?_
      refine jv_iadd (jv_dk t_L_law_31 (k := 6) rfl) ?_
      refine jv_xI (jv_dk t_L_law_31 (k := 7) rfl) (fun v183 => ?_)
      refine jv_callV (en' := jeI) (pv := jpI) (As := [.int (v181), .int (v182), .int (v183)]) (S := []) (jv_dk t_L_law_31 (k := 8) rfl) (fun _ => rfl) (Or.inl lk_L_141) me_X12_mount mv_X12_mount ⟨by decide, by decide⟩ rfl rfl rfl (Nat.le_of_ble_eq_true rfl) (P_X12_mount X x1 v181 v182 v183 h) (fun v184 h185 => ?_)
      show jv_O X M_L_law _ jeI 1300 [some (.ref (jv_ad X 13)), some (.ref (x1)), some (.ref (x2)), some (.ref (x3)), some (.int (x4)), none, none] [.int (v184)] h185 _
      refine jv_aload_n (jv_dk t_L_law_31 (k := 9) rfl) rfl rfl (Or.inr ⟨_, rfl⟩) ?_
      refine jv_aload_n (jv_dk t_L_law_31 (k := 10) rfl) rfl rfl (Or.inr ⟨_, rfl⟩) ?_
      refine jv_iload (jv_dk t_L_law_31 (k := 11) rfl) rfl ?_
      refine jv_iconst (v := 1) (jv_dk t_L_law_31 (k := 12) rfl) (by decide) ?_
      refine jv_iadd (jv_dk t_L_law_31 (k := 13) rfl) ?_
      refine jv_xI (jv_dk t_L_law_31 (k := 14) rfl) (fun v186 => ?_)
      refine jv_aload_n (jv_dk t_L_law_31 (k := 15) rfl) rfl rfl (Or.inr ⟨_, rfl⟩) ?_
      refine jv_iload (jv_dk t_L_law_31 (k := 16) rfl) rfl ?_
      refine jv_iconst (v := 2) (jv_dk t_L_law_31 (k := 17) rfl) (by decide) ?_
      refine jv_iadd (jv_dk t_L_law_31 (k := 18) rfl) ?_
      refine jv_xI (jv_dk t_L_law_31 (k := 19) rfl) (fun v187 => ?_)
      refine jv_aload_n (jv_dk t_L_law_31 (k := 20) rfl) rfl rfl (Or.inr ⟨_, rfl⟩) ?_
      refine jv_iload (jv_dk t_L_law_31 (k := 21) rfl) rfl ?_
      refine jv_iconst (v := 3) (jv_dk t_L_law_31 (k := 22) rfl) (by decide) ?_
      refine jv_iadd (jv_dk t_L_law_31 (k := 23) rfl) ?_
      refine jv_xI (jv_dk t_L_law_31 (k := 24) rfl) (fun v188 => ?_)
      refine jv_callV (en' := jeI) (pv := jpI) (As := [.int (v186), .int (v187), .int (v188)]) (S := [.int (v184)]) (jv_dk t_L_law_32 (k := 0) rfl) (fun _ => rfl) (Or.inl lk_L_144) me_X13_mount mv_X13_mount ⟨by decide, by decide⟩ rfl rfl rfl (Nat.le_of_ble_eq_true rfl) (P_X13_mount X x2 v186 v187 v188 h185) (fun v189 h190 => ?_)
      show jv_O X M_L_law _ jeI 1322 [some (.ref (jv_ad X 13)), some (.ref (x1)), some (.ref (x2)), some (.ref (x3)), some (.int (x4)), none, none] [.int (v189), .int (v184)] h190 _
      refine jv_icmp_eq (tgt := 1929) (jv_dk t_L_law_32 (k := 1) rfl) rfl (fun c191 => ?_) (fun c191 => ?_)
      · refine jv_iinc (v := 6) (L' := [some (.ref (jv_ad X 13)), some (.ref (x1)), some (.ref (x2)), some (.ref (x3)), some (.int (x4 + 6)), none, none]) (jv_dk t_L_law_48 (k := 3) rfl) rfl (by decide) rfl ?_
        refine jv_goto (tgt := 23) (jv_dk t_L_law_48 (k := 4) rfl) rfl ?_
        exact hR23 _ _ _ _ _ 
      · show jv_O _ _ _ _ 1325 _ _ _ _
        refine jv_iconst (v := 0) (jv_dk t_L_law_32 (k := 2) rfl) (by decide) ?_
        exact jv_iret (ty := .boolean) (jv_dk t_L_law_32 (k := 3) rfl) rfl rfl rfl
    rw [if_neg c29]
    by_cases c30 : (v10 &&& 63) = 19
    · rw [if_pos c30]
      refine jv_tbl (tgt := 1327) (jv_dk t_L_law_0 (k := 24) rfl) (by rw [c30] <;> decide) (by rw [c30] <;> decide) (by rw [c30] <;> rfl) rfl ?_
      refine jv_aload_n (jv_dk t_L_law_32 (k := 4) rfl) rfl rfl (Or.inr ⟨_, rfl⟩) ?_
      refine jv_aload_n (jv_dk t_L_law_32 (k := 5) rfl) rfl rfl (Or.inr ⟨_, rfl⟩) ?_
      refine jv_iload (jv_dk t_L_law_32 (k := 6) rfl) rfl ?_
      refine jv_iconst (v := 1) (jv_dk t_L_law_32 (k := 7) rfl) (by decide) ?_
      refine jv_iadd (jv_dk t_L_law_32 (k := 8) rfl) ?_
      refine jv_xI (jv_dk t_L_law_32 (k := 9) rfl) (fun v174 => ?_)
      refine jv_callV (en' := jeI) (pv := jpI) (As := [.int (v174)]) (S := []) (jv_dk t_L_law_32 (k := 10) rfl) (fun _ => rfl) (Or.inl lk_L_145) me_X12_share mv_X12_share ⟨by decide, by decide⟩ rfl rfl rfl (Nat.le_of_ble_eq_true rfl) (P_X12_share X x1 v174 h) (fun v175 h176 => ?_)
      show jv_O X M_L_law _ jeI 1337 [some (.ref (jv_ad X 13)), some (.ref (x1)), some (.ref (x2)), some (.ref (x3)), some (.int (x4)), none, none] [.int (v175)] h176 _
      refine jv_aload_n (jv_dk t_L_law_32 (k := 11) rfl) rfl rfl (Or.inr ⟨_, rfl⟩) ?_
      refine jv_aload_n (jv_dk t_L_law_32 (k := 12) rfl) rfl rfl (Or.inr ⟨_, rfl⟩) ?_
      refine jv_iload (jv_dk t_L_law_32 (k := 13) rfl) rfl ?_
      refine jv_iconst (v := 1) (jv_dk t_L_law_32 (k := 14) rfl) (by decide) ?_
      refine jv_iadd (jv_dk t_L_law_32 (k := 15) rfl) ?_
      refine jv_xI (jv_dk t_L_law_32 (k := 16) rfl) (fun v177 => ?_)
      refine jv_callV (en' := jeI) (pv := jpI) (As := [.int (v177)]) (S := [.int (v175)]) (jv_dk t_L_law_32 (k := 17) rfl) (fun _ => rfl) (Or.inl lk_L_148) me_X13_share mv_X13_share ⟨by decide, by decide⟩ rfl rfl rfl (Nat.le_of_ble_eq_true rfl) (P_X13_share X x2 v177 h176) (fun v178 h179 => ?_)
      show jv_O X M_L_law _ jeI 1347 [some (.ref (jv_ad X 13)), some (.ref (x1)), some (.ref (x2)), some (.ref (x3)), some (.int (x4)), none, none] [.int (v178), .int (v175)] h179 _
      refine jv_icmp_eq (tgt := 1929) (jv_dk t_L_law_32 (k := 18) rfl) rfl (fun c180 => ?_) (fun c180 => ?_)
      · refine jv_iinc (v := 6) (L' := [some (.ref (jv_ad X 13)), some (.ref (x1)), some (.ref (x2)), some (.ref (x3)), some (.int (x4 + 6)), none, none]) (jv_dk t_L_law_48 (k := 3) rfl) rfl (by decide) rfl ?_
        refine jv_goto (tgt := 23) (jv_dk t_L_law_48 (k := 4) rfl) rfl ?_
        exact hR23 _ _ _ _ _ 
      · show jv_O _ _ _ _ 1350 _ _ _ _
        refine jv_iconst (v := 0) (jv_dk t_L_law_32 (k := 19) rfl) (by decide) ?_
        exact jv_iret (ty := .boolean) (jv_dk t_L_law_32 (k := 20) rfl) rfl rfl rfl
    rw [if_neg c30]
    by_cases c31 : (v10 &&& 63) = 20
    · rw [if_pos c31]
      refine jv_tbl (tgt := 1352) (jv_dk t_L_law_0 (k := 24) rfl) (by rw [c31] <;> decide) (by rw [c31] <;> decide) (by rw [c31] <;> rfl) rfl ?_
      refine jv_aload_n (jv_dk t_L_law_32 (k := 21) rfl) rfl rfl (Or.inr ⟨_, rfl⟩) ?_
      refine jv_aload_n (jv_dk t_L_law_32 (k := 22) rfl) rfl rfl (Or.inr ⟨_, rfl⟩) ?_
      refine jv_iload (jv_dk t_L_law_32 (k := 23) rfl) rfl ?_
      refine jv_iconst (v := 1) (jv_dk t_L_law_32 (k := 24) rfl) (by decide) ?_
      refine jv_iadd (jv_dk t_L_law_33 (k := 0) rfl) ?_
      refine jv_xI (jv_dk t_L_law_33 (k := 1) rfl) (fun v163 => ?_)
      refine jv_aload_n (jv_dk t_L_law_33 (k := 2) rfl) rfl rfl (Or.inr ⟨_, rfl⟩) ?_
      refine jv_iload (jv_dk t_L_law_33 (k := 3) rfl) rfl ?_
      refine jv_iconst (v := 2) (jv_dk t_L_law_33 (k := 4) rfl) (by decide) ?_
      refine jv_iadd (jv_dk t_L_law_33 (k := 5) rfl) ?_
      refine jv_xI (jv_dk t_L_law_33 (k := 6) rfl) (fun v164 => ?_)
      refine jv_aload_n (jv_dk t_L_law_33 (k := 7) rfl) rfl rfl (Or.inr ⟨_, rfl⟩) ?_
      refine jv_iload (jv_dk t_L_law_33 (k := 8) rfl) rfl ?_
      refine jv_iconst (v := 3) (jv_dk t_L_law_33 (k := 9) rfl) (by decide) ?_
      refine jv_iadd (jv_dk t_L_law_33 (k := 10) rfl) ?_
      refine jv_xI (jv_dk t_L_law_33 (k := 11) rfl) (fun v165 => ?_)
      refine jv_callV (en' := jeI) (pv := jpI) (As := [.int (v163), .int (v164), .int (v165)]) (S := []) (jv_dk t_L_law_33 (k := 12) rfl) (fun _ => rfl) (Or.inl lk_L_149) me_X12_enter mv_X12_enter ⟨by decide, by decide⟩ rfl rfl rfl (Nat.le_of_ble_eq_true rfl) (P_X12_enter X x1 v163 v164 v165 h) (fun v166 h167 => ?_)
      show jv_O X M_L_law _ jeI 1374 [some (.ref (jv_ad X 13)), some (.ref (x1)), some (.ref (x2)), some (.ref (x3)), some (.int (x4)), none, none] [.int (v166)] h167 _
      refine jv_aload_n (jv_dk t_L_law_33 (k := 13) rfl) rfl rfl (Or.inr ⟨_, rfl⟩) ?_
      refine jv_aload_n (jv_dk t_L_law_33 (k := 14) rfl) rfl rfl (Or.inr ⟨_, rfl⟩) ?_
      refine jv_iload (jv_dk t_L_law_33 (k := 15) rfl) rfl ?_
      refine jv_iconst (v := 1) (jv_dk t_L_law_33 (k := 16) rfl) (by decide) ?_
      refine jv_iadd (jv_dk t_L_law_33 (k := 17) rfl) ?_
      refine jv_xI (jv_dk t_L_law_33 (k := 18) rfl) (fun v168 => ?_)
      refine jv_aload_n (jv_dk t_L_law_33 (k := 19) rfl) rfl rfl (Or.inr ⟨_, rfl⟩) ?_
      refine jv_iload (jv_dk t_L_law_33 (k := 20) rfl) rfl ?_
      refine jv_iconst (v := 2) (jv_dk t_L_law_33 (k := 21) rfl) (by decide) ?_
      refine jv_iadd (jv_dk t_L_law_33 (k := 22) rfl) ?_
      refine jv_xI (jv_dk t_L_law_33 (k := 23) rfl) (fun v169 => ?_)
      refine jv_aload_n (jv_dk t_L_law_33 (k := 24) rfl) rfl rfl (Or.inr ⟨_, rfl⟩) ?_
      refine jv_iload (jv_dk t_L_law_34 (k := 0) rfl) rfl ?_
      refine jv_iconst (v := 3) (jv_dk t_L_law_34 (k := 1) rfl) (by decide) ?_
      refine jv_iadd (jv_dk t_L_law_34 (k := 2) rfl) ?_
      refine jv_xI (jv_dk t_L_law_34 (k := 3) rfl) (fun v170 => ?_)
      refine jv_callV (en' := jeI) (pv := jpI) (As := [.int (v168), .int (v169), .int (v170)]) (S := [.int (v166)]) (jv_dk t_L_law_34 (k := 4) rfl) (fun _ => rfl) (Or.inl lk_L_152) me_X13_enter mv_X13_enter ⟨by decide, by decide⟩ rfl rfl rfl (Nat.le_of_ble_eq_true rfl) (P_X13_enter X x2 v168 v169 v170 h167) (fun v171 h172 => ?_)
      show jv_O X M_L_law _ jeI 1396 [some (.ref (jv_ad X 13)), some (.ref (x1)), some (.ref (x2)), some (.ref (x3)), some (.int (x4)), none, none] [.int (v171), .int (v166)] h172 _
      refine jv_icmp_eq (tgt := 1929) (jv_dk t_L_law_34 (k := 5) rfl) rfl (fun c173 => ?_) (fun c173 => ?_)
      · refine jv_iinc (v := 6) (L' := [some (.ref (jv_ad X 13)), some (.ref (x1)), some (.ref (x2)), some (.ref (x3)), some (.int (x4 + 6)), none, none]) (jv_dk t_L_law_48 (k := 3) rfl) rfl (by decide) rfl ?_
        refine jv_goto (tgt := 23) (jv_dk t_L_law_48 (k := 4) rfl) rfl ?_
        exact hR23 _ _ _ _ _ 
      · show jv_O _ _ _ _ 1399 _ _ _ _
        refine jv_iconst (v := 0) (jv_dk t_L_law_34 (k := 6) rfl) (by decide) ?_
        exact jv_iret (ty := .boolean) (jv_dk t_L_law_34 (k := 7) rfl) rfl rfl rfl
    rw [if_neg c31]
    by_cases c32 : (v10 &&& 63) = 21
    · rw [if_pos c32]
      refine jv_tbl (tgt := 1401) (jv_dk t_L_law_0 (k := 24) rfl) (by rw [c32] <;> decide) (by rw [c32] <;> decide) (by rw [c32] <;> rfl) rfl ?_
      refine jv_aload_n (jv_dk t_L_law_34 (k := 8) rfl) rfl rfl (Or.inr ⟨_, rfl⟩) ?_
      refine jv_aload_n (jv_dk t_L_law_34 (k := 9) rfl) rfl rfl (Or.inr ⟨_, rfl⟩) ?_
      refine jv_iload (jv_dk t_L_law_34 (k := 10) rfl) rfl ?_
      refine jv_iconst (v := 1) (jv_dk t_L_law_34 (k := 11) rfl) (by decide) ?_
      refine jv_iadd (jv_dk t_L_law_34 (k := 12) rfl) ?_
      refine jv_xI (jv_dk t_L_law_34 (k := 13) rfl) (fun v156 => ?_)
      refine jv_callV (en' := jeI) (pv := jpI) (As := [.int (v156)]) (S := []) (jv_dk t_L_law_34 (k := 14) rfl) (fun _ => rfl) (Or.inl lk_L_153) me_X12_end mv_X12_end ⟨by decide, by decide⟩ rfl rfl rfl (Nat.le_of_ble_eq_true rfl) (P_X12_end X x1 v156 h) (fun v157 h158 => ?_)
      show jv_O X M_L_law _ jeI 1411 [some (.ref (jv_ad X 13)), some (.ref (x1)), some (.ref (x2)), some (.ref (x3)), some (.int (x4)), none, none] [.int (v157)] h158 _
      refine jv_aload_n (jv_dk t_L_law_34 (k := 15) rfl) rfl rfl (Or.inr ⟨_, rfl⟩) ?_
      refine jv_aload_n (jv_dk t_L_law_34 (k := 16) rfl) rfl rfl (Or.inr ⟨_, rfl⟩) ?_
      refine jv_iload (jv_dk t_L_law_34 (k := 17) rfl) rfl ?_
      refine jv_iconst (v := 1) (jv_dk t_L_law_34 (k := 18) rfl) (by decide) ?_
      refine jv_iadd (jv_dk t_L_law_34 (k := 19) rfl) ?_
      refine jv_xI (jv_dk t_L_law_34 (k := 20) rfl) (fun v159 => ?_)
      refine jv_callV (en' := jeI) (pv := jpI) (As := [.int (v159)]) (S := [.int (v157)]) (jv_dk t_L_law_34 (k := 21) rfl) (fun _ => rfl) (Or.inl lk_L_156) me_X13_end mv_X13_end ⟨by decide, by decide⟩ rfl rfl rfl (Nat.le_of_ble_eq_true rfl) (P_X13_end X x2 v159 h158) (fun v160 h161 => ?_)
      show jv_O X M_L_law _ jeI 1421 [some (.ref (jv_ad X 13)), some (.ref (x1)), some (.ref (x2)), some (.ref (x3)), some (.int (x4)), none, none] [.int (v160), .int (v157)] h161 _
      refine jv_icmp_eq (tgt := 1929) (jv_dk t_L_law_34 (k := 22) rfl) rfl (fun c162 => ?_) (fun c162 => ?_)
      · refine jv_iinc (v := 6) (L' := [some (.ref (jv_ad X 13)), some (.ref (x1)), some (.ref (x2)), some (.ref (x3)), some (.int (x4 + 6)), none, none]) (jv_dk t_L_law_48 (k := 3) rfl) rfl (by decide) rfl ?_
        refine jv_goto (tgt := 23) (jv_dk t_L_law_48 (k := 4) rfl) rfl ?_
        exact hR23 _ _ _ _ _ 
      · show jv_O _ _ _ _ 1424 _ _ _ _
        refine jv_iconst (v := 0) (jv_dk t_L_law_34 (k := 23) rfl) (by decide) ?_
        exact jv_iret (ty := .boolean) (jv_dk t_L_law_34 (k := 24) rfl) rfl rfl rfl
    rw [if_neg c32]
    by_cases c33 : (v10 &&& 63) = 22
    · rw [if_pos c33]
      refine jv_tbl (tgt := 1426) (jv_dk t_L_law_0 (k := 24) rfl) (by rw [c33] <;> decide) (by rw [c33] <;> decide) (by rw [c33] <;> rfl) rfl ?_
      refine jv_aload_n (jv_dk t_L_law_35 (k := 0) rfl) rfl rfl (Or.inr ⟨_, rfl⟩) ?_
      refine jv_aload_n (jv_dk t_L_law_35 (k := 1) rfl) rfl rfl (Or.inr ⟨_, rfl⟩) ?_
      refine jv_iload (jv_dk t_L_law_35 (k := 2) rfl) rfl ?_
      refine jv_iconst (v := 1) (jv_dk t_L_law_35 (k := 3) rfl) (by decide) ?_
      refine jv_iadd (jv_dk t_L_law_35 (k := 4) rfl) ?_
      refine jv_xI (jv_dk t_L_law_35 (k := 5) rfl) (fun v147 => ?_)
      refine jv_aload_n (jv_dk t_L_law_35 (k := 6) rfl) rfl rfl (Or.inr ⟨_, rfl⟩) ?_
      refine jv_iload (jv_dk t_L_law_35 (k := 7) rfl) rfl ?_
      refine jv_iconst (v := 2) (jv_dk t_L_law_35 (k := 8) rfl) (by decide) ?_
      refine jv_iadd (jv_dk t_L_law_35 (k := 9) rfl) ?_
      refine jv_xI (jv_dk t_L_law_35 (k := 10) rfl) (fun v148 => ?_)
      refine jv_callV (en' := jeI) (pv := jpI) (As := [.int (v147), .int (v148)]) (S := []) (jv_dk t_L_law_35 (k := 11) rfl) (fun _ => rfl) (Or.inl lk_L_157) me_X12_kill mv_X12_kill ⟨by decide, by decide⟩ rfl rfl rfl (Nat.le_of_ble_eq_true rfl) (P_X12_kill X x1 v147 v148 h) (fun v149 h150 => ?_)
      show jv_O X M_L_law _ jeI 1442 [some (.ref (jv_ad X 13)), some (.ref (x1)), some (.ref (x2)), some (.ref (x3)), some (.int (x4)), none, none] [.int (v149)] h150 _
      refine jv_aload_n (jv_dk t_L_law_35 (k := 12) rfl) rfl rfl (Or.inr ⟨_, rfl⟩) ?_
      refine jv_aload_n (jv_dk t_L_law_35 (k := 13) rfl) rfl rfl (Or.inr ⟨_, rfl⟩) ?_
      refine jv_iload (jv_dk t_L_law_35 (k := 14) rfl) rfl ?_
      refine jv_iconst (v := 1) (jv_dk t_L_law_35 (k := 15) rfl) (by decide) ?_
      refine jv_iadd (jv_dk t_L_law_35 (k := 16) rfl) ?_
      refine jv_xI (jv_dk t_L_law_35 (k := 17) rfl) (fun v151 => ?_)
      refine jv_aload_n (jv_dk t_L_law_35 (k := 18) rfl) rfl rfl (Or.inr ⟨_, rfl⟩) ?_
      refine jv_iload (jv_dk t_L_law_35 (k := 19) rfl) rfl ?_
      refine jv_iconst (v := 2) (jv_dk t_L_law_35 (k := 20) rfl) (by decide) ?_
      refine jv_iadd (jv_dk t_L_law_35 (k := 21) rfl) ?_
      refine jv_xI (jv_dk t_L_law_35 (k := 22) rfl) (fun v152 => ?_)
      refine jv_callV (en' := jeI) (pv := jpI) (As := [.int (v151), .int (v152)]) (S := [.int (v149)]) (jv_dk t_L_law_35 (k := 23) rfl) (fun _ => rfl) (Or.inl lk_L_160) me_X13_kill mv_X13_kill ⟨by decide, by decide⟩ rfl rfl rfl (Nat.le_of_ble_eq_true rfl) (P_X13_kill X x2 v151 v152 h150) (fun v153 h154 => ?_)
      show jv_O X M_L_law _ jeI 1458 [some (.ref (jv_ad X 13)), some (.ref (x1)), some (.ref (x2)), some (.ref (x3)), some (.int (x4)), none, none] [.int (v153), .int (v149)] h154 _
      refine jv_icmp_eq (tgt := 1929) (jv_dk t_L_law_35 (k := 24) rfl) rfl (fun c155 => ?_) (fun c155 => ?_)
      · refine jv_iinc (v := 6) (L' := [some (.ref (jv_ad X 13)), some (.ref (x1)), some (.ref (x2)), some (.ref (x3)), some (.int (x4 + 6)), none, none]) (jv_dk t_L_law_48 (k := 3) rfl) rfl (by decide) rfl ?_
        refine jv_goto (tgt := 23) (jv_dk t_L_law_48 (k := 4) rfl) rfl ?_
        exact hR23 _ _ _ _ _ 
      · show jv_O _ _ _ _ 1461 _ _ _ _
        refine jv_iconst (v := 0) (jv_dk t_L_law_36 (k := 0) rfl) (by decide) ?_
        exact jv_iret (ty := .boolean) (jv_dk t_L_law_36 (k := 1) rfl) rfl rfl rfl
    rw [if_neg c33]
    by_cases c34 : (v10 &&& 63) = 23
    · rw [if_pos c34]
      refine jv_tbl (tgt := 1463) (jv_dk t_L_law_0 (k := 24) rfl) (by rw [c34] <;> decide) (by rw [c34] <;> decide) (by rw [c34] <;> rfl) rfl ?_
      refine jv_aload_n (jv_dk t_L_law_36 (k := 2) rfl) rfl rfl (Or.inr ⟨_, rfl⟩) ?_
      refine jv_callV (en' := jeI) (pv := jpI) (As := []) (S := []) (jv_dk t_L_law_36 (k := 3) rfl) (fun _ => rfl) (Or.inl lk_L_161) me_X12_undo mv_X12_undo ⟨by decide, by decide⟩ rfl rfl rfl (Nat.le_of_ble_eq_true rfl) (P_X12_undo X x1 h) (fun v142 h143 => ?_)
      show jv_O X M_L_law _ jeI 1467 [some (.ref (jv_ad X 13)), some (.ref (x1)), some (.ref (x2)), some (.ref (x3)), some (.int (x4)), none, none] [.int (v142)] h143 _
      refine jv_aload_n (jv_dk t_L_law_36 (k := 4) rfl) rfl rfl (Or.inr ⟨_, rfl⟩) ?_
      refine jv_callV (en' := jeI) (pv := jpI) (As := []) (S := [.int (v142)]) (jv_dk t_L_law_36 (k := 5) rfl) (fun _ => rfl) (Or.inl lk_L_164) me_X13_undo mv_X13_undo ⟨by decide, by decide⟩ rfl rfl rfl (Nat.le_of_ble_eq_true rfl) (P_X13_undo X x2 h143) (fun v144 h145 => ?_)
      show jv_O X M_L_law _ jeI 1471 [some (.ref (jv_ad X 13)), some (.ref (x1)), some (.ref (x2)), some (.ref (x3)), some (.int (x4)), none, none] [.int (v144), .int (v142)] h145 _
      refine jv_icmp_eq (tgt := 1929) (jv_dk t_L_law_36 (k := 6) rfl) rfl (fun c146 => ?_) (fun c146 => ?_)
      · refine jv_iinc (v := 6) (L' := [some (.ref (jv_ad X 13)), some (.ref (x1)), some (.ref (x2)), some (.ref (x3)), some (.int (x4 + 6)), none, none]) (jv_dk t_L_law_48 (k := 3) rfl) rfl (by decide) rfl ?_
        refine jv_goto (tgt := 23) (jv_dk t_L_law_48 (k := 4) rfl) rfl ?_
        exact hR23 _ _ _ _ _ 
      · show jv_O _ _ _ _ 1474 _ _ _ _
        refine jv_iconst (v := 0) (jv_dk t_L_law_36 (k := 7) rfl) (by decide) ?_
        exact jv_iret (ty := .boolean) (jv_dk t_L_law_36 (k := 8) rfl) rfl rfl rfl
    rw [if_neg c34]
    by_cases c35 : (v10 &&& 63) = 24
    · rw [if_pos c35]
      refine jv_tbl (tgt := 1476) (jv_dk t_L_law_0 (k := 24) rfl) (by rw [c35] <;> decide) (by rw [c35] <;> decide) (by rw [c35] <;> rfl) rfl ?_
      refine jv_aload_n (jv_dk t_L_law_36 (k := 9) rfl) rfl rfl (Or.inr ⟨_, rfl⟩) ?_
      refine jv_aload_n (jv_dk t_L_law_36 (k := 10) rfl) rfl rfl (Or.inr ⟨_, rfl⟩) ?_
      refine jv_iload (jv_dk t_L_law_36 (k := 11) rfl) rfl ?_
      refine jv_iconst (v := 1) (jv_dk t_L_law_36 (k := 12) rfl) (by decide) ?_
      refine jv_iadd (jv_dk t_L_law_36 (k := 13) rfl) ?_
      refine jv_xI (jv_dk t_L_law_36 (k := 14) rfl) (fun v128 => ?_)
      refine jv_aload_n (jv_dk t_L_law_36 (k := 15) rfl) rfl rfl (Or.inr ⟨_, rfl⟩) ?_
      refine jv_iload (jv_dk t_L_law_36 (k := 16) rfl) rfl ?_
      refine jv_iconst (v := 2) (jv_dk t_L_law_36 (k := 17) rfl) (by decide) ?_
      refine jv_iadd (jv_dk t_L_law_36 (k := 18) rfl) ?_
      refine jv_xI (jv_dk t_L_law_36 (k := 19) rfl) (fun v129 => ?_)
      refine jv_aload_n (jv_dk t_L_law_36 (k := 20) rfl) rfl rfl (Or.inr ⟨_, rfl⟩) ?_
      refine jv_callH (en' := jeI) (pv := jpI) (As := [.ref (x1), .int (v128), .int (v129), .ref (x3)]) (S := []) (jv_dk t_L_law_36 (k := 21) rfl) (fun _ => rfl) lk_L_165 me_L_set ms_L_set ⟨by decide, by decide⟩ rfl rfl (Nat.le_of_ble_eq_true rfl) (P_L_set X x1 v128 v129 x3 h) (fun v130 h131 => ?_)
      show jv_O X M_L_law _ jeI 1493 [some (.ref (jv_ad X 13)), some (.ref (x1)), some (.ref (x2)), some (.ref (x3)), some (.int (x4)), none, none] [.int (v130)] h131 _
      refine jv_istore (L' := [some (.ref (jv_ad X 13)), some (.ref (x1)), some (.ref (x2)), some (.ref (x3)), some (.int (x4)), some (.int (v130)), none]) (jv_dk t_L_law_36 (k := 22) rfl) (Nat.le_of_ble_eq_true rfl) rfl ?_
      refine jv_aload_n (jv_dk t_L_law_36 (k := 23) rfl) rfl rfl (Or.inr ⟨_, rfl⟩) ?_
      refine jv_aload_n (jv_dk t_L_law_36 (k := 24) rfl) rfl rfl (Or.inr ⟨_, rfl⟩) ?_
      refine jv_iload (jv_dk t_L_law_37 (k := 0) rfl) rfl ?_
      refine jv_iconst (v := 1) (jv_dk t_L_law_37 (k := 1) rfl) (by decide) ?_
      refine jv_iadd (jv_dk t_L_law_37 (k := 2) rfl) ?_
      refine jv_xI (jv_dk t_L_law_37 (k := 3) rfl) (fun v132 => ?_)
      refine jv_aload_n (jv_dk t_L_law_37 (k := 4) rfl) rfl rfl (Or.inr ⟨_, rfl⟩) ?_
      refine jv_iload (jv_dk t_L_law_37 (k := 5) rfl) rfl ?_
      refine jv_iconst (v := 2) (jv_dk t_L_law_37 (k := 6) rfl) (by decide) ?_
      refine jv_iadd (jv_dk t_L_law_37 (k := 7) rfl) ?_
      refine jv_xI (jv_dk t_L_law_37 (k := 8) rfl) (fun v133 => ?_)
      refine jv_callV (en' := jeI) (pv := jpI) (As := [.int (v132), .int (v133)]) (S := []) (jv_dk t_L_law_37 (k := 9) rfl) (fun _ => rfl) (Or.inl lk_L_167) me_X13_set mv_X13_set ⟨by decide, by decide⟩ rfl rfl rfl (Nat.le_of_ble_eq_true rfl) (P_X13_set X x2 v132 v133 h131) (fun v134 h135 => ?_)
      show jv_O X M_L_law _ jeI 1511 [some (.ref (jv_ad X 13)), some (.ref (x1)), some (.ref (x2)), some (.ref (x3)), some (.int (x4)), some (.int (v130)), none] [.int (v134)] h135 _
      refine jv_istore (L' := [some (.ref (jv_ad X 13)), some (.ref (x1)), some (.ref (x2)), some (.ref (x3)), some (.int (x4)), some (.int (v130)), some (.int (v134))]) (jv_dk t_L_law_37 (k := 10) rfl) (Nat.le_of_ble_eq_true rfl) rfl ?_
      refine jv_aload_n (jv_dk t_L_law_37 (k := 11) rfl) rfl rfl (Or.inr ⟨_, rfl⟩) ?_
      refine jv_callV (en' := jeI) (pv := jpI) (As := []) (S := []) (jv_dk t_L_law_37 (k := 12) rfl) (fun _ => rfl) (Or.inl lk_L_82) me_X13_thrown mv_X13_thrown ⟨by decide, by decide⟩ rfl rfl rfl (Nat.le_of_ble_eq_true rfl) (P_X13_thrown X x2 h135) (fun v136 h137 => ?_)
      show jv_O X M_L_law _ jeI 1517 [some (.ref (jv_ad X 13)), some (.ref (x1)), some (.ref (x2)), some (.ref (x3)), some (.int (x4)), some (.int (v130)), some (.int (v134))] [.int (v136)] h137 _
      refine jv_iload (jv_dk t_L_law_37 (k := 13) rfl) rfl ?_
      refine jv_icmp_eq (tgt := 1524) (jv_dk t_L_law_37 (k := 14) rfl) rfl (fun c138 => ?_) (fun c138 => ?_)
      · refine jv_iload (jv_dk t_L_law_37 (k := 17) rfl) rfl ?_
        refine jv_if_ne (tgt := 1541) (jv_dk t_L_law_37 (k := 18) rfl) rfl (fun c139 => ?_) (fun c139 => ?_)
        · refine jv_goto (tgt := 1929) (jv_dk t_L_law_38 (k := 3) rfl) rfl ?_
          refine jv_iinc (v := 6) (L' := [some (.ref (jv_ad X 13)), some (.ref (x1)), some (.ref (x2)), some (.ref (x3)), some (.int (x4 + 6)), some (.int (v130)), some (.int (v134))]) (jv_dk t_L_law_48 (k := 3) rfl) rfl (by decide) rfl ?_
          refine jv_goto (tgt := 23) (jv_dk t_L_law_48 (k := 4) rfl) rfl ?_
          refine jv_le_row (jv_le_s (jv_le_s (jv_le_s (jv_le_s (jv_le_s (jv_le_n (jv_le_n (jv_le_nil)))))))) ?_
          exact hR23 _ _ _ _ _ 
        · show jv_O _ _ _ _ 1529 _ _ _ _
          refine jv_aload_n (jv_dk t_L_law_37 (k := 19) rfl) rfl rfl (Or.inr ⟨_, rfl⟩) ?_
          refine jv_iconst (v := 0) (jv_dk t_L_law_37 (k := 20) rfl) (by decide) ?_
          refine jv_laload (jv_dk t_L_law_37 (k := 21) rfl) (fun v140 => ?_)
          refine jv_iload (jv_dk t_L_law_37 (k := 22) rfl) rfl ?_
          refine jv_i2l (jv_dk t_L_law_37 (k := 23) rfl) ?_
          refine jv_lcmp (jv_dk t_L_law_37 (k := 24) rfl) ?_
          refine jv_if_eq (tgt := 1541) (jv_dk t_L_law_38 (k := 0) rfl) rfl (fun c141 => ?_) (fun c141 => ?_)
          · refine jv_goto (tgt := 1929) (jv_dk t_L_law_38 (k := 3) rfl) rfl ?_
            refine jv_iinc (v := 6) (L' := [some (.ref (jv_ad X 13)), some (.ref (x1)), some (.ref (x2)), some (.ref (x3)), some (.int (x4 + 6)), some (.int (v130)), some (.int (v134))]) (jv_dk t_L_law_48 (k := 3) rfl) rfl (by decide) rfl ?_
            refine jv_goto (tgt := 23) (jv_dk t_L_law_48 (k := 4) rfl) rfl ?_
            refine jv_le_row (jv_le_s (jv_le_s (jv_le_s (jv_le_s (jv_le_s (jv_le_n (jv_le_n (jv_le_nil)))))))) ?_
            exact hR23 _ _ _ _ _ 
          · show jv_O _ _ _ _ 1539 _ _ _ _
            refine jv_iconst (v := 0) (jv_dk t_L_law_38 (k := 1) rfl) (by decide) ?_
            exact jv_iret (ty := .boolean) (jv_dk t_L_law_38 (k := 2) rfl) rfl rfl rfl
      · show jv_O _ _ _ _ 1522 _ _ _ _
        refine jv_iconst (v := 0) (jv_dk t_L_law_37 (k := 15) rfl) (by decide) ?_
        exact jv_iret (ty := .boolean) (jv_dk t_L_law_37 (k := 16) rfl) rfl rfl rfl
    rw [if_neg c35]
    by_cases c36 : (v10 &&& 63) = 25
    · rw [if_pos c36]
      refine jv_tbl (tgt := 1544) (jv_dk t_L_law_0 (k := 24) rfl) (by rw [c36] <;> decide) (by rw [c36] <;> decide) (by rw [c36] <;> rfl) rfl ?_
      refine jv_aload_n (jv_dk t_L_law_38 (k := 4) rfl) rfl rfl (Or.inr ⟨_, rfl⟩) ?_
      refine jv_aload_n (jv_dk t_L_law_38 (k := 5) rfl) rfl rfl (Or.inr ⟨_, rfl⟩) ?_
      refine jv_iload (jv_dk t_L_law_38 (k := 6) rfl) rfl ?_
      refine jv_iconst (v := 1) (jv_dk t_L_law_38 (k := 7) rfl) (by decide) ?_
      refine jv_iadd (jv_dk t_L_law_38 (k := 8) rfl) ?_
      refine jv_xI (jv_dk t_L_law_38 (k := 9) rfl) (fun v114 => ?_)
      refine jv_aload_n (jv_dk t_L_law_38 (k := 10) rfl) rfl rfl (Or.inr ⟨_, rfl⟩) ?_
      refine jv_iload (jv_dk t_L_law_38 (k := 11) rfl) rfl ?_
      refine jv_iconst (v := 2) (jv_dk t_L_law_38 (k := 12) rfl) (by decide) ?_
      refine jv_iadd (jv_dk t_L_law_38 (k := 13) rfl) ?_
      refine jv_xI (jv_dk t_L_law_38 (k := 14) rfl) (fun v115 => ?_)
      refine jv_aload_n (jv_dk t_L_law_38 (k := 15) rfl) rfl rfl (Or.inr ⟨_, rfl⟩) ?_
      refine jv_callH (en' := jeI) (pv := jpI) (As := [.ref (x1), .int (v114), .int (v115), .ref (x3)]) (S := []) (jv_dk t_L_law_38 (k := 16) rfl) (fun _ => rfl) lk_L_168 me_L_shared ms_L_shared ⟨by decide, by decide⟩ rfl rfl (Nat.le_of_ble_eq_true rfl) (P_L_shared X x1 v114 v115 x3 h) (fun v116 h117 => ?_)
      show jv_O X M_L_law _ jeI 1561 [some (.ref (jv_ad X 13)), some (.ref (x1)), some (.ref (x2)), some (.ref (x3)), some (.int (x4)), none, none] [.int (v116)] h117 _
      refine jv_istore (L' := [some (.ref (jv_ad X 13)), some (.ref (x1)), some (.ref (x2)), some (.ref (x3)), some (.int (x4)), some (.int (v116)), none]) (jv_dk t_L_law_38 (k := 17) rfl) (Nat.le_of_ble_eq_true rfl) rfl ?_
      refine jv_aload_n (jv_dk t_L_law_38 (k := 18) rfl) rfl rfl (Or.inr ⟨_, rfl⟩) ?_
      refine jv_aload_n (jv_dk t_L_law_38 (k := 19) rfl) rfl rfl (Or.inr ⟨_, rfl⟩) ?_
      refine jv_iload (jv_dk t_L_law_38 (k := 20) rfl) rfl ?_
      refine jv_iconst (v := 1) (jv_dk t_L_law_38 (k := 21) rfl) (by decide) ?_
      refine jv_iadd (jv_dk t_L_law_38 (k := 22) rfl) ?_
      refine jv_xI (jv_dk t_L_law_38 (k := 23) rfl) (fun v118 => ?_)
      refine jv_aload_n (jv_dk t_L_law_38 (k := 24) rfl) rfl rfl (Or.inr ⟨_, rfl⟩) ?_
      refine jv_iload (jv_dk t_L_law_39 (k := 0) rfl) rfl ?_
      refine jv_iconst (v := 2) (jv_dk t_L_law_39 (k := 1) rfl) (by decide) ?_
      refine jv_iadd (jv_dk t_L_law_39 (k := 2) rfl) ?_
      refine jv_xI (jv_dk t_L_law_39 (k := 3) rfl) (fun v119 => ?_)
      refine jv_callV (en' := jeI) (pv := jpI) (As := [.int (v118), .int (v119)]) (S := []) (jv_dk t_L_law_39 (k := 4) rfl) (fun _ => rfl) (Or.inl lk_L_170) me_X13_shared mv_X13_shared ⟨by decide, by decide⟩ rfl rfl rfl (Nat.le_of_ble_eq_true rfl) (P_X13_shared X x2 v118 v119 h117) (fun v120 h121 => ?_)
      show jv_O X M_L_law _ jeI 1579 [some (.ref (jv_ad X 13)), some (.ref (x1)), some (.ref (x2)), some (.ref (x3)), some (.int (x4)), some (.int (v116)), none] [.int (v120)] h121 _
      refine jv_istore (L' := [some (.ref (jv_ad X 13)), some (.ref (x1)), some (.ref (x2)), some (.ref (x3)), some (.int (x4)), some (.int (v116)), some (.int (v120))]) (jv_dk t_L_law_39 (k := 5) rfl) (Nat.le_of_ble_eq_true rfl) rfl ?_
      refine jv_aload_n (jv_dk t_L_law_39 (k := 6) rfl) rfl rfl (Or.inr ⟨_, rfl⟩) ?_
      refine jv_callV (en' := jeI) (pv := jpI) (As := []) (S := []) (jv_dk t_L_law_39 (k := 7) rfl) (fun _ => rfl) (Or.inl lk_L_82) me_X13_thrown mv_X13_thrown ⟨by decide, by decide⟩ rfl rfl rfl (Nat.le_of_ble_eq_true rfl) (P_X13_thrown X x2 h121) (fun v122 h123 => ?_)
      show jv_O X M_L_law _ jeI 1585 [some (.ref (jv_ad X 13)), some (.ref (x1)), some (.ref (x2)), some (.ref (x3)), some (.int (x4)), some (.int (v116)), some (.int (v120))] [.int (v122)] h123 _
      refine jv_iload (jv_dk t_L_law_39 (k := 8) rfl) rfl ?_
      refine jv_icmp_eq (tgt := 1592) (jv_dk t_L_law_39 (k := 9) rfl) rfl (fun c124 => ?_) (fun c124 => ?_)
      · refine jv_iload (jv_dk t_L_law_39 (k := 12) rfl) rfl ?_
        refine jv_if_ne (tgt := 1609) (jv_dk t_L_law_39 (k := 13) rfl) rfl (fun c125 => ?_) (fun c125 => ?_)
        · refine jv_goto (tgt := 1929) (jv_dk t_L_law_39 (k := 23) rfl) rfl ?_
          refine jv_iinc (v := 6) (L' := [some (.ref (jv_ad X 13)), some (.ref (x1)), some (.ref (x2)), some (.ref (x3)), some (.int (x4 + 6)), some (.int (v116)), some (.int (v120))]) (jv_dk t_L_law_48 (k := 3) rfl) rfl (by decide) rfl ?_
          refine jv_goto (tgt := 23) (jv_dk t_L_law_48 (k := 4) rfl) rfl ?_
          refine jv_le_row (jv_le_s (jv_le_s (jv_le_s (jv_le_s (jv_le_s (jv_le_n (jv_le_n (jv_le_nil)))))))) ?_
          exact hR23 _ _ _ _ _ 
        · show jv_O _ _ _ _ 1597 _ _ _ _
          refine jv_aload_n (jv_dk t_L_law_39 (k := 14) rfl) rfl rfl (Or.inr ⟨_, rfl⟩) ?_
          refine jv_iconst (v := 0) (jv_dk t_L_law_39 (k := 15) rfl) (by decide) ?_
          refine jv_laload (jv_dk t_L_law_39 (k := 16) rfl) (fun v126 => ?_)
          refine jv_iload (jv_dk t_L_law_39 (k := 17) rfl) rfl ?_
          refine jv_i2l (jv_dk t_L_law_39 (k := 18) rfl) ?_
          refine jv_lcmp (jv_dk t_L_law_39 (k := 19) rfl) ?_
          refine jv_if_eq (tgt := 1609) (jv_dk t_L_law_39 (k := 20) rfl) rfl (fun c127 => ?_) (fun c127 => ?_)
          · refine jv_goto (tgt := 1929) (jv_dk t_L_law_39 (k := 23) rfl) rfl ?_
            refine jv_iinc (v := 6) (L' := [some (.ref (jv_ad X 13)), some (.ref (x1)), some (.ref (x2)), some (.ref (x3)), some (.int (x4 + 6)), some (.int (v116)), some (.int (v120))]) (jv_dk t_L_law_48 (k := 3) rfl) rfl (by decide) rfl ?_
            refine jv_goto (tgt := 23) (jv_dk t_L_law_48 (k := 4) rfl) rfl ?_
            refine jv_le_row (jv_le_s (jv_le_s (jv_le_s (jv_le_s (jv_le_s (jv_le_n (jv_le_n (jv_le_nil)))))))) ?_
            exact hR23 _ _ _ _ _ 
          · show jv_O _ _ _ _ 1607 _ _ _ _
            refine jv_iconst (v := 0) (jv_dk t_L_law_39 (k := 21) rfl) (by decide) ?_
            exact jv_iret (ty := .boolean) (jv_dk t_L_law_39 (k := 22) rfl) rfl rfl rfl
      · show jv_O _ _ _ _ 1590 _ _ _ _
        refine jv_iconst (v := 0) (jv_dk t_L_law_39 (k := 10) rfl) (by decide) ?_
        exact jv_iret (ty := .boolean) (jv_dk t_L_law_39 (k := 11) rfl) rfl rfl rfl
    rw [if_neg c36]
    by_cases c37 : (v10 &&& 63) = 26
    · rw [if_pos c37]
      refine jv_tbl (tgt := 1612) (jv_dk t_L_law_0 (k := 24) rfl) (by rw [c37] <;> decide) (by rw [c37] <;> decide) (by rw [c37] <;> rfl) rfl ?_
      refine jv_aload_n (jv_dk t_L_law_39 (k := 24) rfl) rfl rfl (Or.inr ⟨_, rfl⟩) ?_
      refine jv_aload_n (jv_dk t_L_law_40 (k := 0) rfl) rfl rfl (Or.inr ⟨_, rfl⟩) ?_
      refine jv_iload (jv_dk t_L_law_40 (k := 1) rfl) rfl ?_
      refine jv_iconst (v := 1) (jv_dk t_L_law_40 (k := 2) rfl) (by decide) ?_
      refine jv_iadd (jv_dk t_L_law_40 (k := 3) rfl) ?_
      refine jv_xI (jv_dk t_L_law_40 (k := 4) rfl) (fun v100 => ?_)
      refine jv_aload_n (jv_dk t_L_law_40 (k := 5) rfl) rfl rfl (Or.inr ⟨_, rfl⟩) ?_
      refine jv_iload (jv_dk t_L_law_40 (k := 6) rfl) rfl ?_
      refine jv_iconst (v := 2) (jv_dk t_L_law_40 (k := 7) rfl) (by decide) ?_
      refine jv_iadd (jv_dk t_L_law_40 (k := 8) rfl) ?_
      refine jv_xI (jv_dk t_L_law_40 (k := 9) rfl) (fun v101 => ?_)
      refine jv_aload_n (jv_dk t_L_law_40 (k := 10) rfl) rfl rfl (Or.inr ⟨_, rfl⟩) ?_
      refine jv_callH (en' := jeI) (pv := jpI) (As := [.ref (x1), .int (v100), .int (v101), .ref (x3)]) (S := []) (jv_dk t_L_law_40 (k := 11) rfl) (fun _ => rfl) lk_L_171 me_L_steps ms_L_steps ⟨by decide, by decide⟩ rfl rfl (Nat.le_of_ble_eq_true rfl) (P_L_steps X x1 v100 v101 x3 h) (fun v102 h103 => ?_)
      show jv_O X M_L_law _ jeI 1629 [some (.ref (jv_ad X 13)), some (.ref (x1)), some (.ref (x2)), some (.ref (x3)), some (.int (x4)), none, none] [.int (v102)] h103 _
      refine jv_istore (L' := [some (.ref (jv_ad X 13)), some (.ref (x1)), some (.ref (x2)), some (.ref (x3)), some (.int (x4)), some (.int (v102)), none]) (jv_dk t_L_law_40 (k := 12) rfl) (Nat.le_of_ble_eq_true rfl) rfl ?_
      refine jv_aload_n (jv_dk t_L_law_40 (k := 13) rfl) rfl rfl (Or.inr ⟨_, rfl⟩) ?_
      refine jv_aload_n (jv_dk t_L_law_40 (k := 14) rfl) rfl rfl (Or.inr ⟨_, rfl⟩) ?_
      refine jv_iload (jv_dk t_L_law_40 (k := 15) rfl) rfl ?_
      refine jv_iconst (v := 1) (jv_dk t_L_law_40 (k := 16) rfl) (by decide) ?_
      refine jv_iadd (jv_dk t_L_law_40 (k := 17) rfl) ?_
      refine jv_xI (jv_dk t_L_law_40 (k := 18) rfl) (fun v104 => ?_)
      refine jv_aload_n (jv_dk t_L_law_40 (k := 19) rfl) rfl rfl (Or.inr ⟨_, rfl⟩) ?_
      refine jv_iload (jv_dk t_L_law_40 (k := 20) rfl) rfl ?_
      refine jv_iconst (v := 2) (jv_dk t_L_law_40 (k := 21) rfl) (by decide) ?_
      refine jv_iadd (jv_dk t_L_law_40 (k := 22) rfl) ?_
      refine jv_xI (jv_dk t_L_law_40 (k := 23) rfl) (fun v105 => ?_)
      refine jv_callV (en' := jeI) (pv := jpI) (As := [.int (v104), .int (v105)]) (S := []) (jv_dk t_L_law_40 (k := 24) rfl) (fun _ => rfl) (Or.inl lk_L_173) me_X13_steps mv_X13_steps ⟨by decide, by decide⟩ rfl rfl rfl (Nat.le_of_ble_eq_true rfl) (P_X13_steps X x2 v104 v105 h103) (fun v106 h107 => ?_)
      show jv_O X M_L_law _ jeI 1647 [some (.ref (jv_ad X 13)), some (.ref (x1)), some (.ref (x2)), some (.ref (x3)), some (.int (x4)), some (.int (v102)), none] [.int (v106)] h107 _
      refine jv_istore (L' := [some (.ref (jv_ad X 13)), some (.ref (x1)), some (.ref (x2)), some (.ref (x3)), some (.int (x4)), some (.int (v102)), some (.int (v106))]) (jv_dk t_L_law_41 (k := 0) rfl) (Nat.le_of_ble_eq_true rfl) rfl ?_
      refine jv_aload_n (jv_dk t_L_law_41 (k := 1) rfl) rfl rfl (Or.inr ⟨_, rfl⟩) ?_
      refine jv_callV (en' := jeI) (pv := jpI) (As := []) (S := []) (jv_dk t_L_law_41 (k := 2) rfl) (fun _ => rfl) (Or.inl lk_L_82) me_X13_thrown mv_X13_thrown ⟨by decide, by decide⟩ rfl rfl rfl (Nat.le_of_ble_eq_true rfl) (P_X13_thrown X x2 h107) (fun v108 h109 => ?_)
      show jv_O X M_L_law _ jeI 1653 [some (.ref (jv_ad X 13)), some (.ref (x1)), some (.ref (x2)), some (.ref (x3)), some (.int (x4)), some (.int (v102)), some (.int (v106))] [.int (v108)] h109 _
      refine jv_iload (jv_dk t_L_law_41 (k := 3) rfl) rfl ?_
      refine jv_icmp_eq (tgt := 1660) (jv_dk t_L_law_41 (k := 4) rfl) rfl (fun c110 => ?_) (fun c110 => ?_)
      · refine jv_iload (jv_dk t_L_law_41 (k := 7) rfl) rfl ?_
        refine jv_if_ne (tgt := 1677) (jv_dk t_L_law_41 (k := 8) rfl) rfl (fun c111 => ?_) (fun c111 => ?_)
        · refine jv_goto (tgt := 1929) (jv_dk t_L_law_41 (k := 18) rfl) rfl ?_
          refine jv_iinc (v := 6) (L' := [some (.ref (jv_ad X 13)), some (.ref (x1)), some (.ref (x2)), some (.ref (x3)), some (.int (x4 + 6)), some (.int (v102)), some (.int (v106))]) (jv_dk t_L_law_48 (k := 3) rfl) rfl (by decide) rfl ?_
          refine jv_goto (tgt := 23) (jv_dk t_L_law_48 (k := 4) rfl) rfl ?_
          refine jv_le_row (jv_le_s (jv_le_s (jv_le_s (jv_le_s (jv_le_s (jv_le_n (jv_le_n (jv_le_nil)))))))) ?_
          exact hR23 _ _ _ _ _ 
        · show jv_O _ _ _ _ 1665 _ _ _ _
          refine jv_aload_n (jv_dk t_L_law_41 (k := 9) rfl) rfl rfl (Or.inr ⟨_, rfl⟩) ?_
          refine jv_iconst (v := 0) (jv_dk t_L_law_41 (k := 10) rfl) (by decide) ?_
          refine jv_laload (jv_dk t_L_law_41 (k := 11) rfl) (fun v112 => ?_)
          refine jv_iload (jv_dk t_L_law_41 (k := 12) rfl) rfl ?_
          refine jv_i2l (jv_dk t_L_law_41 (k := 13) rfl) ?_
          refine jv_lcmp (jv_dk t_L_law_41 (k := 14) rfl) ?_
          refine jv_if_eq (tgt := 1677) (jv_dk t_L_law_41 (k := 15) rfl) rfl (fun c113 => ?_) (fun c113 => ?_)
          · refine jv_goto (tgt := 1929) (jv_dk t_L_law_41 (k := 18) rfl) rfl ?_
            refine jv_iinc (v := 6) (L' := [some (.ref (jv_ad X 13)), some (.ref (x1)), some (.ref (x2)), some (.ref (x3)), some (.int (x4 + 6)), some (.int (v102)), some (.int (v106))]) (jv_dk t_L_law_48 (k := 3) rfl) rfl (by decide) rfl ?_
            refine jv_goto (tgt := 23) (jv_dk t_L_law_48 (k := 4) rfl) rfl ?_
            refine jv_le_row (jv_le_s (jv_le_s (jv_le_s (jv_le_s (jv_le_s (jv_le_n (jv_le_n (jv_le_nil)))))))) ?_
            exact hR23 _ _ _ _ _ 
          · show jv_O _ _ _ _ 1675 _ _ _ _
            refine jv_iconst (v := 0) (jv_dk t_L_law_41 (k := 16) rfl) (by decide) ?_
            exact jv_iret (ty := .boolean) (jv_dk t_L_law_41 (k := 17) rfl) rfl rfl rfl
      · show jv_O _ _ _ _ 1658 _ _ _ _
        refine jv_iconst (v := 0) (jv_dk t_L_law_41 (k := 5) rfl) (by decide) ?_
        exact jv_iret (ty := .boolean) (jv_dk t_L_law_41 (k := 6) rfl) rfl rfl rfl
    rw [if_neg c37]
    by_cases c38 : (v10 &&& 63) = 27
    · rw [if_pos c38]
      refine jv_tbl (tgt := 1680) (jv_dk t_L_law_0 (k := 24) rfl) (by rw [c38] <;> decide) (by rw [c38] <;> decide) (by rw [c38] <;> rfl) rfl ?_
      refine jv_aload_n (jv_dk t_L_law_41 (k := 19) rfl) rfl rfl (Or.inr ⟨_, rfl⟩) ?_
      refine jv_aload_n (jv_dk t_L_law_41 (k := 20) rfl) rfl rfl (Or.inr ⟨_, rfl⟩) ?_
      refine jv_iload (jv_dk t_L_law_41 (k := 21) rfl) rfl ?_
      refine jv_iconst (v := 1) (jv_dk t_L_law_41 (k := 22) rfl) (by decide) ?_
      refine jv_iadd (jv_dk t_L_law_41 (k := 23) rfl) ?_
      refine jv_xI (jv_dk t_L_law_41 (k := 24) rfl) (fun v87 => ?_)
      refine jv_aload_n (jv_dk t_L_law_42 (k := 0) rfl) rfl rfl (Or.inr ⟨_, rfl⟩) ?_
      refine jv_iload (jv_dk t_L_law_42 (k := 1) rfl) rfl ?_
      refine jv_iconst (v := 2) (jv_dk t_L_law_42 (k := 2) rfl) (by decide) ?_
      refine jv_iadd (jv_dk t_L_law_42 (k := 3) rfl) ?_
      refine jv_xI (jv_dk t_L_law_42 (k := 4) rfl) (fun v88 => ?_)
      refine jv_aload_n (jv_dk t_L_law_42 (k := 5) rfl) rfl rfl (Or.inr ⟨_, rfl⟩) ?_
      refine jv_iload (jv_dk t_L_law_42 (k := 6) rfl) rfl ?_
      refine jv_iconst (v := 3) (jv_dk t_L_law_42 (k := 7) rfl) (by decide) ?_
      refine jv_iadd (jv_dk t_L_law_42 (k := 8) rfl) ?_
      refine jv_xI (jv_dk t_L_law_42 (k := 9) rfl) (fun v89 => ?_)
      refine jv_if_eq (tgt := 1706) (jv_dk t_L_law_42 (k := 10) rfl) rfl (fun c90 => ?_) (fun c90 => ?_)
      · refine jv_iconst (v := 0) (jv_dk t_L_law_42 (k := 13) rfl) (by decide) ?_
        exact o_f_L_law_b1707 hR23 hK23 _ _ _ _ _ _ _ _ _ 
      · show jv_O _ _ _ _ 1702 _ _ _ _
        refine jv_iconst (v := 1) (jv_dk t_L_law_42 (k := 11) rfl) (by decide) ?_
        refine jv_goto (tgt := 1707) (jv_dk t_L_law_42 (k := 12) rfl) rfl ?_
        exact o_f_L_law_b1707 hR23 hK23 _ _ _ _ _ _ _ _ _ 
    rw [if_neg c38]
    by_cases c39 : (v10 &&& 63) = 28
    · rw [if_pos c39]
      refine jv_tbl (tgt := 1745) (jv_dk t_L_law_0 (k := 24) rfl) (by rw [c39] <;> decide) (by rw [c39] <;> decide) (by rw [c39] <;> rfl) rfl ?_
      refine jv_aload_n (jv_dk t_L_law_43 (k := 14) rfl) rfl rfl (Or.inr ⟨_, rfl⟩) ?_
      refine jv_callV (en' := jeI) (pv := jpI) (As := []) (S := []) (jv_dk t_L_law_43 (k := 15) rfl) (fun _ => rfl) (Or.inl lk_L_179) me_X12_fits mv_X12_fits ⟨by decide, by decide⟩ rfl rfl rfl (Nat.le_of_ble_eq_true rfl) (P_X12_fits X x1 h) (fun v82 h83 => ?_)
      show jv_O X M_L_law _ jeI 1749 [some (.ref (jv_ad X 13)), some (.ref (x1)), some (.ref (x2)), some (.ref (x3)), some (.int (x4)), none, none] [.int (v82)] h83 _
      refine jv_aload_n (jv_dk t_L_law_43 (k := 16) rfl) rfl rfl (Or.inr ⟨_, rfl⟩) ?_
      refine jv_callV (en' := jeI) (pv := jpI) (As := []) (S := [.int (v82)]) (jv_dk t_L_law_43 (k := 17) rfl) (fun _ => rfl) (Or.inl lk_L_182) me_X13_fits mv_X13_fits ⟨by decide, by decide⟩ rfl rfl rfl (Nat.le_of_ble_eq_true rfl) (P_X13_fits X x2 h83) (fun v84 h85 => ?_)
      show jv_O X M_L_law _ jeI 1753 [some (.ref (jv_ad X 13)), some (.ref (x1)), some (.ref (x2)), some (.ref (x3)), some (.int (x4)), none, none] [.int (v84), .int (v82)] h85 _
      refine jv_icmp_eq (tgt := 1929) (jv_dk t_L_law_43 (k := 18) rfl) rfl (fun c86 => ?_) (fun c86 => ?_)
      · refine jv_iinc (v := 6) (L' := [some (.ref (jv_ad X 13)), some (.ref (x1)), some (.ref (x2)), some (.ref (x3)), some (.int (x4 + 6)), none, none]) (jv_dk t_L_law_48 (k := 3) rfl) rfl (by decide) rfl ?_
        refine jv_goto (tgt := 23) (jv_dk t_L_law_48 (k := 4) rfl) rfl ?_
        exact hR23 _ _ _ _ _ 
      · show jv_O _ _ _ _ 1756 _ _ _ _
        refine jv_iconst (v := 0) (jv_dk t_L_law_43 (k := 19) rfl) (by decide) ?_
        exact jv_iret (ty := .boolean) (jv_dk t_L_law_43 (k := 20) rfl) rfl rfl rfl
    rw [if_neg c39]
    by_cases c40 : (v10 &&& 63) = 29
    · rw [if_pos c40]
      refine jv_tbl (tgt := 1758) (jv_dk t_L_law_0 (k := 24) rfl) (by rw [c40] <;> decide) (by rw [c40] <;> decide) (by rw [c40] <;> rfl) rfl ?_
      refine jv_aload_n (jv_dk t_L_law_43 (k := 21) rfl) rfl rfl (Or.inr ⟨_, rfl⟩) ?_
      refine jv_aload_n (jv_dk t_L_law_43 (k := 22) rfl) rfl rfl (Or.inr ⟨_, rfl⟩) ?_
      refine jv_iload (jv_dk t_L_law_43 (k := 23) rfl) rfl ?_
      refine jv_iconst (v := 1) (jv_dk t_L_law_43 (k := 24) rfl) (by decide) ?_
      refine jv_iadd (jv_dk t_L_law_44 (k := 0) rfl) ?_
      refine jv_xI (jv_dk t_L_law_44 (k := 1) rfl) (fun v70 => ?_)
      refine jv_aload_n (jv_dk t_L_law_44 (k := 2) rfl) rfl rfl (Or.inr ⟨_, rfl⟩) ?_
      refine jv_callH (en' := jeI) (pv := jpI) (As := [.ref (x1), .int (v70), .ref (x3)]) (S := []) (jv_dk t_L_law_44 (k := 3) rfl) (fun _ => rfl) lk_L_183 me_L_look ms_L_look ⟨by decide, by decide⟩ rfl rfl (Nat.le_of_ble_eq_true rfl) (P_L_look X x1 v70 x3 h) (fun v71 h72 => ?_)
      show jv_O X M_L_law _ jeI 1769 [some (.ref (jv_ad X 13)), some (.ref (x1)), some (.ref (x2)), some (.ref (x3)), some (.int (x4)), none, none] [.int (v71)] h72 _
      refine jv_istore (L' := [some (.ref (jv_ad X 13)), some (.ref (x1)), some (.ref (x2)), some (.ref (x3)), some (.int (x4)), some (.int (v71)), none]) (jv_dk t_L_law_44 (k := 4) rfl) (Nat.le_of_ble_eq_true rfl) rfl ?_
      refine jv_aload_n (jv_dk t_L_law_44 (k := 5) rfl) rfl rfl (Or.inr ⟨_, rfl⟩) ?_
      refine jv_aload_n (jv_dk t_L_law_44 (k := 6) rfl) rfl rfl (Or.inr ⟨_, rfl⟩) ?_
      refine jv_iload (jv_dk t_L_law_44 (k := 7) rfl) rfl ?_
      refine jv_iconst (v := 1) (jv_dk t_L_law_44 (k := 8) rfl) (by decide) ?_
      refine jv_iadd (jv_dk t_L_law_44 (k := 9) rfl) ?_
      refine jv_xI (jv_dk t_L_law_44 (k := 10) rfl) (fun v73 => ?_)
      refine jv_callV (en' := jeI) (pv := jpI) (As := [.int (v73)]) (S := []) (jv_dk t_L_law_44 (k := 11) rfl) (fun _ => rfl) (Or.inl lk_L_185) me_X13_look mv_X13_look ⟨by decide, by decide⟩ rfl rfl rfl (Nat.le_of_ble_eq_true rfl) (P_X13_look X x2 v73 h72) (fun v74 h75 => ?_)
      show jv_O X M_L_law _ jeI 1781 [some (.ref (jv_ad X 13)), some (.ref (x1)), some (.ref (x2)), some (.ref (x3)), some (.int (x4)), some (.int (v71)), none] [.int (v74)] h75 _
      refine jv_istore (L' := [some (.ref (jv_ad X 13)), some (.ref (x1)), some (.ref (x2)), some (.ref (x3)), some (.int (x4)), some (.int (v71)), some (.int (v74))]) (jv_dk t_L_law_44 (k := 12) rfl) (Nat.le_of_ble_eq_true rfl) rfl ?_
      refine jv_aload_n (jv_dk t_L_law_44 (k := 13) rfl) rfl rfl (Or.inr ⟨_, rfl⟩) ?_
      refine jv_callV (en' := jeI) (pv := jpI) (As := []) (S := []) (jv_dk t_L_law_44 (k := 14) rfl) (fun _ => rfl) (Or.inl lk_L_82) me_X13_thrown mv_X13_thrown ⟨by decide, by decide⟩ rfl rfl rfl (Nat.le_of_ble_eq_true rfl) (P_X13_thrown X x2 h75) (fun v76 h77 => ?_)
      show jv_O X M_L_law _ jeI 1787 [some (.ref (jv_ad X 13)), some (.ref (x1)), some (.ref (x2)), some (.ref (x3)), some (.int (x4)), some (.int (v71)), some (.int (v74))] [.int (v76)] h77 _
      refine jv_iload (jv_dk t_L_law_44 (k := 15) rfl) rfl ?_
      refine jv_icmp_eq (tgt := 1794) (jv_dk t_L_law_44 (k := 16) rfl) rfl (fun c78 => ?_) (fun c78 => ?_)
      · refine jv_iload (jv_dk t_L_law_44 (k := 19) rfl) rfl ?_
        refine jv_if_ne (tgt := 1811) (jv_dk t_L_law_44 (k := 20) rfl) rfl (fun c79 => ?_) (fun c79 => ?_)
        · refine jv_goto (tgt := 1929) (jv_dk t_L_law_45 (k := 5) rfl) rfl ?_
          refine jv_iinc (v := 6) (L' := [some (.ref (jv_ad X 13)), some (.ref (x1)), some (.ref (x2)), some (.ref (x3)), some (.int (x4 + 6)), some (.int (v71)), some (.int (v74))]) (jv_dk t_L_law_48 (k := 3) rfl) rfl (by decide) rfl ?_
          refine jv_goto (tgt := 23) (jv_dk t_L_law_48 (k := 4) rfl) rfl ?_
          refine jv_le_row (jv_le_s (jv_le_s (jv_le_s (jv_le_s (jv_le_s (jv_le_n (jv_le_n (jv_le_nil)))))))) ?_
          exact hR23 _ _ _ _ _ 
        · show jv_O _ _ _ _ 1799 _ _ _ _
          refine jv_aload_n (jv_dk t_L_law_44 (k := 21) rfl) rfl rfl (Or.inr ⟨_, rfl⟩) ?_
          refine jv_iconst (v := 0) (jv_dk t_L_law_44 (k := 22) rfl) (by decide) ?_
          refine jv_laload (jv_dk t_L_law_44 (k := 23) rfl) (fun v80 => ?_)
          refine jv_iload (jv_dk t_L_law_44 (k := 24) rfl) rfl ?_
          refine jv_i2l (jv_dk t_L_law_45 (k := 0) rfl) ?_
          refine jv_lcmp (jv_dk t_L_law_45 (k := 1) rfl) ?_
          refine jv_if_eq (tgt := 1811) (jv_dk t_L_law_45 (k := 2) rfl) rfl (fun c81 => ?_) (fun c81 => ?_)
          · refine jv_goto (tgt := 1929) (jv_dk t_L_law_45 (k := 5) rfl) rfl ?_
            refine jv_iinc (v := 6) (L' := [some (.ref (jv_ad X 13)), some (.ref (x1)), some (.ref (x2)), some (.ref (x3)), some (.int (x4 + 6)), some (.int (v71)), some (.int (v74))]) (jv_dk t_L_law_48 (k := 3) rfl) rfl (by decide) rfl ?_
            refine jv_goto (tgt := 23) (jv_dk t_L_law_48 (k := 4) rfl) rfl ?_
            refine jv_le_row (jv_le_s (jv_le_s (jv_le_s (jv_le_s (jv_le_s (jv_le_n (jv_le_n (jv_le_nil)))))))) ?_
            exact hR23 _ _ _ _ _ 
          · show jv_O _ _ _ _ 1809 _ _ _ _
            refine jv_iconst (v := 0) (jv_dk t_L_law_45 (k := 3) rfl) (by decide) ?_
            exact jv_iret (ty := .boolean) (jv_dk t_L_law_45 (k := 4) rfl) rfl rfl rfl
      · show jv_O _ _ _ _ 1792 _ _ _ _
        refine jv_iconst (v := 0) (jv_dk t_L_law_44 (k := 17) rfl) (by decide) ?_
        exact jv_iret (ty := .boolean) (jv_dk t_L_law_44 (k := 18) rfl) rfl rfl rfl
    rw [if_neg c40]
    by_cases c41 : (v10 &&& 63) = 30
    · rw [if_pos c41]
      refine jv_tbl (tgt := 1814) (jv_dk t_L_law_0 (k := 24) rfl) (by rw [c41] <;> decide) (by rw [c41] <;> decide) (by rw [c41] <;> rfl) rfl ?_
      refine jv_aload_n (jv_dk t_L_law_45 (k := 6) rfl) rfl rfl (Or.inr ⟨_, rfl⟩) ?_
      refine jv_callV (en' := jeV) (pv := jpV) (As := []) (S := []) (jv_dk t_L_law_45 (k := 7) rfl) (fun _ => rfl) (Or.inl lk_L_186) me_X12_forget mv_X12_forget ⟨by decide, by decide⟩ rfl rfl rfl (Nat.le_of_ble_eq_true rfl) (P_X12_forget X x1 h) (fun _ h68 => ?_)
      show jv_O X M_L_law _ jeI 1818 [some (.ref (jv_ad X 13)), some (.ref (x1)), some (.ref (x2)), some (.ref (x3)), some (.int (x4)), none, none] [] h68 _
      refine jv_aload_n (jv_dk t_L_law_45 (k := 8) rfl) rfl rfl (Or.inr ⟨_, rfl⟩) ?_
      refine jv_callV (en' := jeV) (pv := jpV) (As := []) (S := []) (jv_dk t_L_law_45 (k := 9) rfl) (fun _ => rfl) (Or.inl lk_L_189) me_X13_forget mv_X13_forget ⟨by decide, by decide⟩ rfl rfl rfl (Nat.le_of_ble_eq_true rfl) (P_X13_forget X x2 h68) (fun _ h69 => ?_)
      show jv_O X M_L_law _ jeI 1822 [some (.ref (jv_ad X 13)), some (.ref (x1)), some (.ref (x2)), some (.ref (x3)), some (.int (x4)), none, none] [] h69 _
      refine jv_goto (tgt := 1929) (jv_dk t_L_law_45 (k := 10) rfl) rfl ?_
      refine jv_iinc (v := 6) (L' := [some (.ref (jv_ad X 13)), some (.ref (x1)), some (.ref (x2)), some (.ref (x3)), some (.int (x4 + 6)), none, none]) (jv_dk t_L_law_48 (k := 3) rfl) rfl (by decide) rfl ?_
      refine jv_goto (tgt := 23) (jv_dk t_L_law_48 (k := 4) rfl) rfl ?_
      exact hR23 _ _ _ _ _ 
    rw [if_neg c41]
    by_cases c42 : (v10 &&& 63) = 31
    · rw [if_pos c42]
      refine jv_tbl (tgt := 1825) (jv_dk t_L_law_0 (k := 24) rfl) (by rw [c42] <;> decide) (by rw [c42] <;> decide) (by rw [c42] <;> rfl) rfl ?_
      refine jv_aload_n (jv_dk t_L_law_45 (k := 11) rfl) rfl rfl (Or.inr ⟨_, rfl⟩) ?_
      refine jv_aload_n (jv_dk t_L_law_45 (k := 12) rfl) rfl rfl (Or.inr ⟨_, rfl⟩) ?_
      refine jv_iload (jv_dk t_L_law_45 (k := 13) rfl) rfl ?_
      refine jv_iconst (v := 1) (jv_dk t_L_law_45 (k := 14) rfl) (by decide) ?_
      refine jv_iadd (jv_dk t_L_law_45 (k := 15) rfl) ?_
      refine jv_xI (jv_dk t_L_law_45 (k := 16) rfl) (fun v52 => ?_)
      refine jv_aload_n (jv_dk t_L_law_45 (k := 17) rfl) rfl rfl (Or.inr ⟨_, rfl⟩) ?_
      refine jv_iload (jv_dk t_L_law_45 (k := 18) rfl) rfl ?_
      refine jv_iconst (v := 2) (jv_dk t_L_law_45 (k := 19) rfl) (by decide) ?_
      refine jv_iadd (jv_dk t_L_law_45 (k := 20) rfl) ?_
      refine jv_xI (jv_dk t_L_law_45 (k := 21) rfl) (fun v53 => ?_)
      refine jv_aload_n (jv_dk t_L_law_45 (k := 22) rfl) rfl rfl (Or.inr ⟨_, rfl⟩) ?_
      refine jv_iload (jv_dk t_L_law_45 (k := 23) rfl) rfl ?_
      refine jv_iconst (v := 3) (jv_dk t_L_law_45 (k := 24) rfl) (by decide) ?_
      refine jv_iadd (jv_dk t_L_law_46 (k := 0) rfl) ?_
      refine jv_xI (jv_dk t_L_law_46 (k := 1) rfl) (fun v54 => ?_)
      refine jv_aload_n (jv_dk t_L_law_46 (k := 2) rfl) rfl rfl (Or.inr ⟨_, rfl⟩) ?_
      refine jv_callH (en' := jeI) (pv := jpI) (As := [.ref (x1), .int (v52), .int (v53), .int (v54), .ref (x3)]) (S := []) (jv_dk t_L_law_46 (k := 3) rfl) (fun _ => rfl) lk_L_190 me_L_years ms_L_years ⟨by decide, by decide⟩ rfl rfl (Nat.le_of_ble_eq_true rfl) (P_L_years X x1 v52 v53 v54 x3 h) (fun v55 h56 => ?_)
      show jv_O X M_L_law _ jeI 1848 [some (.ref (jv_ad X 13)), some (.ref (x1)), some (.ref (x2)), some (.ref (x3)), some (.int (x4)), none, none] [.int (v55)] h56 _
      refine jv_istore (L' := [some (.ref (jv_ad X 13)), some (.ref (x1)), some (.ref (x2)), some (.ref (x3)), some (.int (x4)), some (.int (v55)), none]) (jv_dk t_L_law_46 (k := 4) rfl) (Nat.le_of_ble_eq_true rfl) rfl ?_
      refine jv_aload_n (jv_dk t_L_law_46 (k := 5) rfl) rfl rfl (Or.inr ⟨_, rfl⟩) ?_
      refine jv_aload_n (jv_dk t_L_law_46 (k := 6) rfl) rfl rfl (Or.inr ⟨_, rfl⟩) ?_
      refine jv_iload (jv_dk t_L_law_46 (k := 7) rfl) rfl ?_
      refine jv_iconst (v := 1) (jv_dk t_L_law_46 (k := 8) rfl) (by decide) ?_
      refine jv_iadd (jv_dk t_L_law_46 (k := 9) rfl) ?_
      refine jv_xI (jv_dk t_L_law_46 (k := 10) rfl) (fun v57 => ?_)
      refine jv_aload_n (jv_dk t_L_law_46 (k := 11) rfl) rfl rfl (Or.inr ⟨_, rfl⟩) ?_
      refine jv_iload (jv_dk t_L_law_46 (k := 12) rfl) rfl ?_
      refine jv_iconst (v := 2) (jv_dk t_L_law_46 (k := 13) rfl) (by decide) ?_
      refine jv_iadd (jv_dk t_L_law_46 (k := 14) rfl) ?_
      refine jv_xI (jv_dk t_L_law_46 (k := 15) rfl) (fun v58 => ?_)
      refine jv_aload_n (jv_dk t_L_law_46 (k := 16) rfl) rfl rfl (Or.inr ⟨_, rfl⟩) ?_
      refine jv_iload (jv_dk t_L_law_46 (k := 17) rfl) rfl ?_
      refine jv_iconst (v := 3) (jv_dk t_L_law_46 (k := 18) rfl) (by decide) ?_
      refine jv_iadd (jv_dk t_L_law_46 (k := 19) rfl) ?_
      refine jv_xI (jv_dk t_L_law_46 (k := 20) rfl) (fun v59 => ?_)
      refine jv_callV (en' := jeI) (pv := jpI) (As := [.int (v57), .int (v58), .int (v59)]) (S := []) (jv_dk t_L_law_46 (k := 21) rfl) (fun _ => rfl) (Or.inl lk_L_192) me_X13_years mv_X13_years ⟨by decide, by decide⟩ rfl rfl rfl (Nat.le_of_ble_eq_true rfl) (P_X13_years X x2 v57 v58 v59 h56) (fun v60 h61 => ?_)
      show jv_O X M_L_law _ jeI 1872 [some (.ref (jv_ad X 13)), some (.ref (x1)), some (.ref (x2)), some (.ref (x3)), some (.int (x4)), some (.int (v55)), none] [.int (v60)] h61 _
      refine jv_istore (L' := [some (.ref (jv_ad X 13)), some (.ref (x1)), some (.ref (x2)), some (.ref (x3)), some (.int (x4)), some (.int (v55)), some (.int (v60))]) (jv_dk t_L_law_46 (k := 22) rfl) (Nat.le_of_ble_eq_true rfl) rfl ?_
      refine jv_aload_n (jv_dk t_L_law_46 (k := 23) rfl) rfl rfl (Or.inr ⟨_, rfl⟩) ?_
      refine jv_callV (en' := jeI) (pv := jpI) (As := []) (S := []) (jv_dk t_L_law_46 (k := 24) rfl) (fun _ => rfl) (Or.inl lk_L_82) me_X13_thrown mv_X13_thrown ⟨by decide, by decide⟩ rfl rfl rfl (Nat.le_of_ble_eq_true rfl) (P_X13_thrown X x2 h61) (fun v62 h63 => ?_)
      show jv_O X M_L_law _ jeI 1878 [some (.ref (jv_ad X 13)), some (.ref (x1)), some (.ref (x2)), some (.ref (x3)), some (.int (x4)), some (.int (v55)), some (.int (v60))] [.int (v62)] h63 _
      refine jv_iload (jv_dk t_L_law_47 (k := 0) rfl) rfl ?_
      refine jv_icmp_eq (tgt := 1885) (jv_dk t_L_law_47 (k := 1) rfl) rfl (fun c64 => ?_) (fun c64 => ?_)
      · refine jv_iload (jv_dk t_L_law_47 (k := 4) rfl) rfl ?_
        refine jv_if_ne (tgt := 1902) (jv_dk t_L_law_47 (k := 5) rfl) rfl (fun c65 => ?_) (fun c65 => ?_)
        · refine jv_goto (tgt := 1929) (jv_dk t_L_law_47 (k := 15) rfl) rfl ?_
          refine jv_iinc (v := 6) (L' := [some (.ref (jv_ad X 13)), some (.ref (x1)), some (.ref (x2)), some (.ref (x3)), some (.int (x4 + 6)), some (.int (v55)), some (.int (v60))]) (jv_dk t_L_law_48 (k := 3) rfl) rfl (by decide) rfl ?_
          refine jv_goto (tgt := 23) (jv_dk t_L_law_48 (k := 4) rfl) rfl ?_
          refine jv_le_row (jv_le_s (jv_le_s (jv_le_s (jv_le_s (jv_le_s (jv_le_n (jv_le_n (jv_le_nil)))))))) ?_
          exact hR23 _ _ _ _ _ 
        · show jv_O _ _ _ _ 1890 _ _ _ _
          refine jv_aload_n (jv_dk t_L_law_47 (k := 6) rfl) rfl rfl (Or.inr ⟨_, rfl⟩) ?_
          refine jv_iconst (v := 0) (jv_dk t_L_law_47 (k := 7) rfl) (by decide) ?_
          refine jv_laload (jv_dk t_L_law_47 (k := 8) rfl) (fun v66 => ?_)
          refine jv_iload (jv_dk t_L_law_47 (k := 9) rfl) rfl ?_
          refine jv_i2l (jv_dk t_L_law_47 (k := 10) rfl) ?_
          refine jv_lcmp (jv_dk t_L_law_47 (k := 11) rfl) ?_
          refine jv_if_eq (tgt := 1902) (jv_dk t_L_law_47 (k := 12) rfl) rfl (fun c67 => ?_) (fun c67 => ?_)
          · refine jv_goto (tgt := 1929) (jv_dk t_L_law_47 (k := 15) rfl) rfl ?_
            refine jv_iinc (v := 6) (L' := [some (.ref (jv_ad X 13)), some (.ref (x1)), some (.ref (x2)), some (.ref (x3)), some (.int (x4 + 6)), some (.int (v55)), some (.int (v60))]) (jv_dk t_L_law_48 (k := 3) rfl) rfl (by decide) rfl ?_
            refine jv_goto (tgt := 23) (jv_dk t_L_law_48 (k := 4) rfl) rfl ?_
            refine jv_le_row (jv_le_s (jv_le_s (jv_le_s (jv_le_s (jv_le_s (jv_le_n (jv_le_n (jv_le_nil)))))))) ?_
            exact hR23 _ _ _ _ _ 
          · show jv_O _ _ _ _ 1900 _ _ _ _
            refine jv_iconst (v := 0) (jv_dk t_L_law_47 (k := 13) rfl) (by decide) ?_
            exact jv_iret (ty := .boolean) (jv_dk t_L_law_47 (k := 14) rfl) rfl rfl rfl
      · show jv_O _ _ _ _ 1883 _ _ _ _
        refine jv_iconst (v := 0) (jv_dk t_L_law_47 (k := 2) rfl) (by decide) ?_
        exact jv_iret (ty := .boolean) (jv_dk t_L_law_47 (k := 3) rfl) rfl rfl rfl
    rw [if_neg c42]
    by_cases c43 : (v10 &&& 63) = 32
    · rw [if_pos c43]
      refine jv_tbl (tgt := 1905) (jv_dk t_L_law_0 (k := 24) rfl) (by rw [c43] <;> decide) (by rw [c43] <;> decide) (by rw [c43] <;> rfl) rfl ?_
      refine jv_aload_n (jv_dk t_L_law_47 (k := 16) rfl) rfl rfl (Or.inr ⟨_, rfl⟩) ?_
      refine jv_callV (en' := jeV) (pv := jpV) (As := []) (S := []) (jv_dk t_L_law_47 (k := 17) rfl) (fun _ => rfl) (Or.inl lk_L_193) me_X12_image mv_X12_image ⟨by decide, by decide⟩ rfl rfl rfl (Nat.le_of_ble_eq_true rfl) (P_X12_image X x1 h) (fun _ h50 => ?_)
      show jv_O X M_L_law _ jeI 1909 [some (.ref (jv_ad X 13)), some (.ref (x1)), some (.ref (x2)), some (.ref (x3)), some (.int (x4)), none, none] [] h50 _
      refine jv_aload_n (jv_dk t_L_law_47 (k := 18) rfl) rfl rfl (Or.inr ⟨_, rfl⟩) ?_
      refine jv_callV (en' := jeV) (pv := jpV) (As := []) (S := []) (jv_dk t_L_law_47 (k := 19) rfl) (fun _ => rfl) (Or.inl lk_L_196) me_X13_image mv_X13_image ⟨by decide, by decide⟩ rfl rfl rfl (Nat.le_of_ble_eq_true rfl) (P_X13_image X x2 h50) (fun _ h51 => ?_)
      show jv_O X M_L_law _ jeI 1913 [some (.ref (jv_ad X 13)), some (.ref (x1)), some (.ref (x2)), some (.ref (x3)), some (.int (x4)), none, none] [] h51 _
      refine jv_goto (tgt := 1929) (jv_dk t_L_law_47 (k := 20) rfl) rfl ?_
      refine jv_iinc (v := 6) (L' := [some (.ref (jv_ad X 13)), some (.ref (x1)), some (.ref (x2)), some (.ref (x3)), some (.int (x4 + 6)), none, none]) (jv_dk t_L_law_48 (k := 3) rfl) rfl (by decide) rfl ?_
      refine jv_goto (tgt := 23) (jv_dk t_L_law_48 (k := 4) rfl) rfl ?_
      exact hR23 _ _ _ _ _ 
    rw [if_neg c43]
    by_cases c44 : (v10 &&& 63) = 33
    · rw [if_pos c44]
      refine jv_tbl (tgt := 1916) (jv_dk t_L_law_0 (k := 24) rfl) (by rw [c44] <;> decide) (by rw [c44] <;> decide) (by rw [c44] <;> rfl) rfl ?_
      refine jv_aload_n (jv_dk t_L_law_47 (k := 21) rfl) rfl rfl (Or.inr ⟨_, rfl⟩) ?_
      refine jv_callV (en' := jeI) (pv := jpI) (As := []) (S := []) (jv_dk t_L_law_47 (k := 22) rfl) (fun _ => rfl) (Or.inl lk_L_197) me_X12_restore mv_X12_restore ⟨by decide, by decide⟩ rfl rfl rfl (Nat.le_of_ble_eq_true rfl) (P_X12_restore X x1 h) (fun v45 h46 => ?_)
      show jv_O X M_L_law _ jeI 1920 [some (.ref (jv_ad X 13)), some (.ref (x1)), some (.ref (x2)), some (.ref (x3)), some (.int (x4)), none, none] [.int (v45)] h46 _
      refine jv_aload_n (jv_dk t_L_law_47 (k := 23) rfl) rfl rfl (Or.inr ⟨_, rfl⟩) ?_
      refine jv_callV (en' := jeI) (pv := jpI) (As := []) (S := [.int (v45)]) (jv_dk t_L_law_47 (k := 24) rfl) (fun _ => rfl) (Or.inl lk_L_201) me_X13_restore mv_X13_restore ⟨by decide, by decide⟩ rfl rfl rfl (Nat.le_of_ble_eq_true rfl) (P_X13_restore X x2 h46) (fun v47 h48 => ?_)
      show jv_O X M_L_law _ jeI 1924 [some (.ref (jv_ad X 13)), some (.ref (x1)), some (.ref (x2)), some (.ref (x3)), some (.int (x4)), none, none] [.int (v47), .int (v45)] h48 _
      refine jv_icmp_eq (tgt := 1929) (jv_dk t_L_law_48 (k := 0) rfl) rfl (fun c49 => ?_) (fun c49 => ?_)
      · refine jv_iinc (v := 6) (L' := [some (.ref (jv_ad X 13)), some (.ref (x1)), some (.ref (x2)), some (.ref (x3)), some (.int (x4 + 6)), none, none]) (jv_dk t_L_law_48 (k := 3) rfl) rfl (by decide) rfl ?_
        refine jv_goto (tgt := 23) (jv_dk t_L_law_48 (k := 4) rfl) rfl ?_
        exact hR23 _ _ _ _ _ 
      · show jv_O _ _ _ _ 1927 _ _ _ _
        refine jv_iconst (v := 0) (jv_dk t_L_law_48 (k := 1) rfl) (by decide) ?_
        exact jv_iret (ty := .boolean) (jv_dk t_L_law_48 (k := 2) rfl) rfl rfl rfl
    rw [if_neg c44]
    have e_c11 := jv_ne (x := (v10 &&& 63)) (k := 0) (by decide) (by decide) c11
    have e_c12 := jv_ne (x := (v10 &&& 63)) (k := 1) (by decide) (by decide) c12
    have e_c13 := jv_ne (x := (v10 &&& 63)) (k := 2) (by decide) (by decide) c13
    have e_c14 := jv_ne (x := (v10 &&& 63)) (k := 3) (by decide) (by decide) c14
    have e_c15 := jv_ne (x := (v10 &&& 63)) (k := 4) (by decide) (by decide) c15
    have e_c16 := jv_ne (x := (v10 &&& 63)) (k := 5) (by decide) (by decide) c16
    have e_c17 := jv_ne (x := (v10 &&& 63)) (k := 6) (by decide) (by decide) c17
    have e_c18 := jv_ne (x := (v10 &&& 63)) (k := 7) (by decide) (by decide) c18
    have e_c19 := jv_ne (x := (v10 &&& 63)) (k := 8) (by decide) (by decide) c19
    have e_c20 := jv_ne (x := (v10 &&& 63)) (k := 9) (by decide) (by decide) c20
    have e_c21 := jv_ne (x := (v10 &&& 63)) (k := 10) (by decide) (by decide) c21
    have e_c22 := jv_ne (x := (v10 &&& 63)) (k := 11) (by decide) (by decide) c22
    have e_c23 := jv_ne (x := (v10 &&& 63)) (k := 12) (by decide) (by decide) c23
    have e_c24 := jv_ne (x := (v10 &&& 63)) (k := 13) (by decide) (by decide) c24
    have e_c25 := jv_ne (x := (v10 &&& 63)) (k := 14) (by decide) (by decide) c25
    have e_c26 := jv_ne (x := (v10 &&& 63)) (k := 15) (by decide) (by decide) c26
    have e_c27 := jv_ne (x := (v10 &&& 63)) (k := 16) (by decide) (by decide) c27
    have e_c28 := jv_ne (x := (v10 &&& 63)) (k := 17) (by decide) (by decide) c28
    have e_c29 := jv_ne (x := (v10 &&& 63)) (k := 18) (by decide) (by decide) c29
    have e_c30 := jv_ne (x := (v10 &&& 63)) (k := 19) (by decide) (by decide) c30
    have e_c31 := jv_ne (x := (v10 &&& 63)) (k := 20) (by decide) (by decide) c31
    have e_c32 := jv_ne (x := (v10 &&& 63)) (k := 21) (by decide) (by decide) c32
    have e_c33 := jv_ne (x := (v10 &&& 63)) (k := 22) (by decide) (by decide) c33
    have e_c34 := jv_ne (x := (v10 &&& 63)) (k := 23) (by decide) (by decide) c34
    have e_c35 := jv_ne (x := (v10 &&& 63)) (k := 24) (by decide) (by decide) c35
    have e_c36 := jv_ne (x := (v10 &&& 63)) (k := 25) (by decide) (by decide) c36
    have e_c37 := jv_ne (x := (v10 &&& 63)) (k := 26) (by decide) (by decide) c37
    have e_c38 := jv_ne (x := (v10 &&& 63)) (k := 27) (by decide) (by decide) c38
    have e_c39 := jv_ne (x := (v10 &&& 63)) (k := 28) (by decide) (by decide) c39
    have e_c40 := jv_ne (x := (v10 &&& 63)) (k := 29) (by decide) (by decide) c40
    have e_c41 := jv_ne (x := (v10 &&& 63)) (k := 30) (by decide) (by decide) c41
    have e_c42 := jv_ne (x := (v10 &&& 63)) (k := 31) (by decide) (by decide) c42
    have e_c43 := jv_ne (x := (v10 &&& 63)) (k := 32) (by decide) (by decide) c43
    have e_c44 := jv_ne (x := (v10 &&& 63)) (k := 33) (by decide) (by decide) c44
    refine jv_tblOut (tgt := 1929) (jv_dk t_L_law_0 (k := 24) rfl) (by omega) rfl ?_
    refine jv_iinc (v := 6) (L' := [some (.ref (jv_ad X 13)), some (.ref (x1)), some (.ref (x2)), some (.ref (x3)), some (.int (x4 + 6)), none, none]) (jv_dk t_L_law_48 (k := 3) rfl) rfl (by decide) rfl ?_
    refine jv_goto (tgt := 23) (jv_dk t_L_law_48 (k := 4) rfl) rfl ?_
    exact hR23 _ _ _ _ _ 
def f_L_law (N : Nat) (xs : Nat → Int32)  (h : jh) : Option (Int32 × jh) :=
  nO h 10 10 [.null, .null, .null, .null, .null, .null, .int 0, .int 0, .null, .int 0] fun q1 h2 =>
  bd (f_X12_init q1 h2) fun _ h3 =>
  nO h3 11 36 [.null, .int 0, .null, .null, .null, .int 0, .int 0, .int 0, .int 0, .int 0, .int 0, .int 0, .int 0, .int 0, .int 0, .null, .int 0, .null, .int 0, .null, .null, .null, .int 0, .null, .null, .null, .int 0, .int 0, .int 0, .int 0, .null, .null, .null, .null, .null, .null] fun q4 h5 =>
  bd (f_X13_init q4 h5) fun _ h6 =>
  nL8 h6 1 fun q7 h8 =>
  jlp4 (f_L_law_h23 N xs (fun  h422 =>
  some (1, h422))) jfu q1 q4 q7 0 h8
theorem o_f_L_law (X : jx) (b0 : Nat × Nat) (h : jh) : jv_O X M_L_law b0 jeI 0 [some (.ref (jv_ad X 13)), none, none, none, none, none, none] [] h (f_L_law X.2.2.2.2.2.1 X.2.2.2.2.2.2 h) := by
  unfold f_L_law
  refine jv_new (jv_dk t_L_law_0 (k := 0) rfl) kX12 ck_L_8 ib_X12 iz_X12 df_X12 (fun q1 h2 => ?_)
  refine jv_dup (jv_dk t_L_law_0 (k := 1) rfl) rfl ?_
  refine jv_callI (en' := jeV) (pv := jpV) (As := []) (S := [.ref (q1)]) (jv_dk t_L_law_0 (k := 2) rfl) (fun _ => rfl) (Or.inl lk_L_67) me_X12_init mi_X12_init rfl rfl ⟨by decide, by decide⟩ rfl rfl (Nat.le_of_ble_eq_true rfl) (P_X12_init X q1 h2) (fun _ h3 => ?_)
  show jv_O X M_L_law _ jeI 7 [some (.ref (jv_ad X 13)), none, none, none, none, none, none] [.ref (q1)] h3 _
  refine jv_astore_n (L' := [some (.ref (jv_ad X 13)), some (.ref (q1)), none, none, none, none, none]) (jv_dk t_L_law_0 (k := 3) rfl) rfl (Nat.le_of_ble_eq_true rfl) (Or.inr ⟨_, rfl⟩) rfl ?_
  refine jv_new (jv_dk t_L_law_0 (k := 4) rfl) kX13 ck_L_68 ib_X13 iz_X13 df_X13 (fun q4 h5 => ?_)
  refine jv_dup (jv_dk t_L_law_0 (k := 5) rfl) rfl ?_
  refine jv_callI (en' := jeV) (pv := jpV) (As := []) (S := [.ref (q4)]) (jv_dk t_L_law_0 (k := 6) rfl) (fun _ => rfl) (Or.inl lk_L_70) me_X13_init mi_X13_init rfl rfl ⟨by decide, by decide⟩ rfl rfl (Nat.le_of_ble_eq_true rfl) (P_X13_init X q4 h5) (fun _ h6 => ?_)
  show jv_O X M_L_law _ jeI 15 [some (.ref (jv_ad X 13)), some (.ref (q1)), none, none, none, none, none] [.ref (q4)] h6 _
  refine jv_astore_n (L' := [some (.ref (jv_ad X 13)), some (.ref (q1)), some (.ref (q4)), none, none, none, none]) (jv_dk t_L_law_0 (k := 7) rfl) rfl (Nat.le_of_ble_eq_true rfl) (Or.inr ⟨_, rfl⟩) rfl ?_
  refine jv_iconst (v := 1) (jv_dk t_L_law_0 (k := 8) rfl) (by decide) ?_
  refine jv_newL (jv_dk t_L_law_0 (k := 9) rfl) ac_J (fun q7 h8 => ?_)
  refine jv_astore_n (L' := [some (.ref (jv_ad X 13)), some (.ref (q1)), some (.ref (q4)), some (.ref (q7)), none, none, none]) (jv_dk t_L_law_0 (k := 10) rfl) rfl (Nat.le_of_ble_eq_true rfl) (Or.inr ⟨_, rfl⟩) rfl ?_
  refine jv_iconst (v := 0) (jv_dk t_L_law_0 (k := 11) rfl) (by decide) ?_
  refine jv_istore (L' := [some (.ref (jv_ad X 13)), some (.ref (q1)), some (.ref (q4)), some (.ref (q7)), some (.int (0)), none, none]) (jv_dk t_L_law_0 (k := 12) rfl) (Nat.le_of_ble_eq_true rfl) rfl ?_
  refine o_f_L_law_h23 (fun  h422 => ?_) _ _ _ _ _ 
  show jv_O X M_L_law _ jeI 1935 [none, none, none, none, none, none, none] [] h422 _
  refine jv_iconst (v := 1) (jv_dk t_L_law_48 (k := 5) rfl) (by decide) ?_
  exact jv_iret (ty := .boolean) (jv_dk t_L_law_48 (k := 6) rfl) rfl rfl rfl
