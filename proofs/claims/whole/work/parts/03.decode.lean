/-! every entry of the program decodes as it says; its links are the table's -/
theorem dec_0 : (List.range' 0 6).all (fun mi => match mPT[mi]? with | some t => chkM mi t | none => true) = true := by decide +kernel
theorem dec_6 : (List.range' 6 4).all (fun mi => match mPT[mi]? with | some t => chkM mi t | none => true) = true := by decide +kernel
theorem dec_10 : (List.range' 10 5).all (fun mi => match mPT[mi]? with | some t => chkM mi t | none => true) = true := by decide +kernel
theorem dec_15 : (List.range' 15 7).all (fun mi => match mPT[mi]? with | some t => chkM mi t | none => true) = true := by decide +kernel
theorem dec_22 : (List.range' 22 5).all (fun mi => match mPT[mi]? with | some t => chkM mi t | none => true) = true := by decide +kernel
theorem dec_27 : (List.range' 27 6).all (fun mi => match mPT[mi]? with | some t => chkM mi t | none => true) = true := by decide +kernel
theorem dec_33 : (List.range' 33 4).all (fun mi => match mPT[mi]? with | some t => chkM mi t | none => true) = true := by decide +kernel
theorem dec_37 : (List.range' 37 4).all (fun mi => match mPT[mi]? with | some t => chkM mi t | none => true) = true := by decide +kernel
theorem dec_41 : (List.range' 41 9).all (fun mi => match mPT[mi]? with | some t => chkM mi t | none => true) = true := by decide +kernel
theorem dec_50 : (List.range' 50 7).all (fun mi => match mPT[mi]? with | some t => chkM mi t | none => true) = true := by decide +kernel
theorem dec_57 : (List.range' 57 7).all (fun mi => match mPT[mi]? with | some t => chkM mi t | none => true) = true := by decide +kernel
theorem dec_64 : (List.range' 64 5).all (fun mi => match mPT[mi]? with | some t => chkM mi t | none => true) = true := by decide +kernel
theorem dec_69 : (List.range' 69 8).all (fun mi => match mPT[mi]? with | some t => chkM mi t | none => true) = true := by decide +kernel
theorem dec_77 : (List.range' 77 5).all (fun mi => match mPT[mi]? with | some t => chkM mi t | none => true) = true := by decide +kernel
theorem dec_82 : (List.range' 82 2).all (fun mi => match mPT[mi]? with | some t => chkM mi t | none => true) = true := by decide +kernel
theorem dec_84 : (List.range' 84 4).all (fun mi => match mPT[mi]? with | some t => chkM mi t | none => true) = true := by decide +kernel
theorem dec_88 : (List.range' 88 6).all (fun mi => match mPT[mi]? with | some t => chkM mi t | none => true) = true := by decide +kernel
theorem dec_94 : (List.range' 94 11).all (fun mi => match mPT[mi]? with | some t => chkM mi t | none => true) = true := by decide +kernel
theorem dec_105 : (List.range' 105 6).all (fun mi => match mPT[mi]? with | some t => chkM mi t | none => true) = true := by decide +kernel
theorem dec_111 : (List.range' 111 4).all (fun mi => match mPT[mi]? with | some t => chkM mi t | none => true) = true := by decide +kernel
theorem dec_115 : (List.range' 115 1).all (fun mi => match mPT[mi]? with | some t => chkM mi t | none => true) = true := by decide +kernel
theorem dec_116 : (List.range' 116 5).all (fun mi => match mPT[mi]? with | some t => chkM mi t | none => true) = true := by decide +kernel
theorem dec_121 : (List.range' 121 3).all (fun mi => match mPT[mi]? with | some t => chkM mi t | none => true) = true := by decide +kernel
theorem dec_124 : (List.range' 124 1).all (fun mi => match mPT[mi]? with | some t => chkM mi t | none => true) = true := by decide +kernel
theorem dec_125 : (List.range' 125 9).all (fun mi => match mPT[mi]? with | some t => chkM mi t | none => true) = true := by decide +kernel
theorem dec_134 : (List.range' 134 2).all (fun mi => match mPT[mi]? with | some t => chkM mi t | none => true) = true := by decide +kernel
theorem dec_136 : (List.range' 136 4).all (fun mi => match mPT[mi]? with | some t => chkM mi t | none => true) = true := by decide +kernel
theorem dec_140 : (List.range' 140 1).all (fun mi => match mPT[mi]? with | some t => chkM mi t | none => true) = true := by decide +kernel
theorem dec_141 : (List.range' 141 3).all (fun mi => match mPT[mi]? with | some t => chkM mi t | none => true) = true := by decide +kernel
theorem dec_144 : (List.range' 144 3).all (fun mi => match mPT[mi]? with | some t => chkM mi t | none => true) = true := by decide +kernel
theorem dec_147 : (List.range' 147 5).all (fun mi => match mPT[mi]? with | some t => chkM mi t | none => true) = true := by decide +kernel
theorem dec_152 : (List.range' 152 2).all (fun mi => match mPT[mi]? with | some t => chkM mi t | none => true) = true := by decide +kernel
theorem dec_154 : (List.range' 154 2).all (fun mi => match mPT[mi]? with | some t => chkM mi t | none => true) = true := by decide +kernel
theorem dec_156 : (List.range' 156 4).all (fun mi => match mPT[mi]? with | some t => chkM mi t | none => true) = true := by decide +kernel
theorem dec_160 : (List.range' 160 2).all (fun mi => match mPT[mi]? with | some t => chkM mi t | none => true) = true := by decide +kernel
theorem dec_162 : (List.range' 162 2).all (fun mi => match mPT[mi]? with | some t => chkM mi t | none => true) = true := by decide +kernel
theorem dec_164 : (List.range' 164 4).all (fun mi => match mPT[mi]? with | some t => chkM mi t | none => true) = true := by decide +kernel
theorem dec_168 : (List.range' 168 2).all (fun mi => match mPT[mi]? with | some t => chkM mi t | none => true) = true := by decide +kernel
theorem dec_170 : (List.range' 170 1).all (fun mi => match mPT[mi]? with | some t => chkM mi t | none => true) = true := by decide +kernel
theorem dec_171 : (List.range' 171 3).all (fun mi => match mPT[mi]? with | some t => chkM mi t | none => true) = true := by decide +kernel
theorem dec_174 : (List.range' 174 5).all (fun mi => match mPT[mi]? with | some t => chkM mi t | none => true) = true := by decide +kernel
theorem dec_179 : (List.range' 179 4).all (fun mi => match mPT[mi]? with | some t => chkM mi t | none => true) = true := by decide +kernel
theorem dec_183 : (List.range' 183 1).all (fun mi => match mPT[mi]? with | some t => chkM mi t | none => true) = true := by decide +kernel
theorem dec_184 : (List.range' 184 1).all (fun mi => match mPT[mi]? with | some t => chkM mi t | none => true) = true := by decide +kernel
theorem dec_185 : (List.range' 185 1).all (fun mi => match mPT[mi]? with | some t => chkM mi t | none => true) = true := by decide +kernel
theorem decL_0 : (List.range' 0 8).all (fun q => match pL_law[q]? with | some l => chkQ 186 q l | none => true) = true := by decide +kernel
theorem decL_8 : (List.range' 8 8).all (fun q => match pL_law[q]? with | some l => chkQ 186 q l | none => true) = true := by decide +kernel
theorem decL_16 : (List.range' 16 8).all (fun q => match pL_law[q]? with | some l => chkQ 186 q l | none => true) = true := by decide +kernel
theorem decL_24 : (List.range' 24 8).all (fun q => match pL_law[q]? with | some l => chkQ 186 q l | none => true) = true := by decide +kernel
theorem decL_32 : (List.range' 32 8).all (fun q => match pL_law[q]? with | some l => chkQ 186 q l | none => true) = true := by decide +kernel
theorem decL_40 : (List.range' 40 8).all (fun q => match pL_law[q]? with | some l => chkQ 186 q l | none => true) = true := by decide +kernel
theorem decL_48 : (List.range' 48 8).all (fun q => match pL_law[q]? with | some l => chkQ 186 q l | none => true) = true := by decide +kernel
theorem decL_56 : (List.range' 56 8).all (fun q => match pL_law[q]? with | some l => chkQ 186 q l | none => true) = true := by decide +kernel
theorem decL_64 : (List.range' 64 8).all (fun q => match pL_law[q]? with | some l => chkQ 186 q l | none => true) = true := by decide +kernel
theorem decL_72 : (List.range' 72 8).all (fun q => match pL_law[q]? with | some l => chkQ 186 q l | none => true) = true := by decide +kernel
theorem decL_80 : (List.range' 80 8).all (fun q => match pL_law[q]? with | some l => chkQ 186 q l | none => true) = true := by decide +kernel
theorem decL_88 : (List.range' 88 1).all (fun q => match pL_law[q]? with | some l => chkQ 186 q l | none => true) = true := by decide +kernel
