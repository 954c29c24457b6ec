/-! the law's cases -/
set_option maxRecDepth 20000 in
theorem k_pm112_0 : k_c112_0 ∈ k_P.2.1 112 := by
  have h : k_P.2.1 112 = [k_c112_0] := by rfl
  rw [h]
  exact List.mem_cons_self
set_option maxRecDepth 20000 in
theorem k_pm113_0 : k_c113_0 ∈ k_P.2.1 113 := by
  have h : k_P.2.1 113 = [k_c113_0] := by rfl
  rw [h]
  exact List.mem_cons_self
set_option maxRecDepth 20000 in
theorem k_pm114_0 : k_c114_0 ∈ k_P.2.1 114 := by
  have h : k_P.2.1 114 = [k_c114_0] := by rfl
  rw [h]
  exact List.mem_cons_self
set_option maxRecDepth 20000 in
theorem k_pm123_0 : k_c123_0 ∈ k_P.2.1 123 := by
  have h : k_P.2.1 123 = [k_c123_0, k_c123_1, k_c123_2, k_c123_3, k_c123_4, k_c123_5, k_c123_6] := by rfl
  rw [h]
  exact List.mem_cons_self
set_option maxRecDepth 20000 in
theorem k_pm123_1 : k_c123_1 ∈ k_P.2.1 123 := by
  have h : k_P.2.1 123 = [k_c123_0, k_c123_1, k_c123_2, k_c123_3, k_c123_4, k_c123_5, k_c123_6] := by rfl
  rw [h]
  exact List.mem_cons_of_mem _ (List.mem_cons_self)
set_option maxRecDepth 20000 in
theorem k_pm123_2 : k_c123_2 ∈ k_P.2.1 123 := by
  have h : k_P.2.1 123 = [k_c123_0, k_c123_1, k_c123_2, k_c123_3, k_c123_4, k_c123_5, k_c123_6] := by rfl
  rw [h]
  exact List.mem_cons_of_mem _ (List.mem_cons_of_mem _ (List.mem_cons_self))
set_option maxRecDepth 20000 in
theorem k_pm123_3 : k_c123_3 ∈ k_P.2.1 123 := by
  have h : k_P.2.1 123 = [k_c123_0, k_c123_1, k_c123_2, k_c123_3, k_c123_4, k_c123_5, k_c123_6] := by rfl
  rw [h]
  exact List.mem_cons_of_mem _ (List.mem_cons_of_mem _ (List.mem_cons_of_mem _ (List.mem_cons_self)))
set_option maxRecDepth 20000 in
theorem k_pm123_4 : k_c123_4 ∈ k_P.2.1 123 := by
  have h : k_P.2.1 123 = [k_c123_0, k_c123_1, k_c123_2, k_c123_3, k_c123_4, k_c123_5, k_c123_6] := by rfl
  rw [h]
  exact List.mem_cons_of_mem _ (List.mem_cons_of_mem _ (List.mem_cons_of_mem _ (List.mem_cons_of_mem _ (List.mem_cons_self))))
set_option maxRecDepth 20000 in
theorem k_pm123_5 : k_c123_5 ∈ k_P.2.1 123 := by
  have h : k_P.2.1 123 = [k_c123_0, k_c123_1, k_c123_2, k_c123_3, k_c123_4, k_c123_5, k_c123_6] := by rfl
  rw [h]
  exact List.mem_cons_of_mem _ (List.mem_cons_of_mem _ (List.mem_cons_of_mem _ (List.mem_cons_of_mem _ (List.mem_cons_of_mem _ (List.mem_cons_self)))))
set_option maxRecDepth 20000 in
theorem k_pm123_6 : k_c123_6 ∈ k_P.2.1 123 := by
  have h : k_P.2.1 123 = [k_c123_0, k_c123_1, k_c123_2, k_c123_3, k_c123_4, k_c123_5, k_c123_6] := by rfl
  rw [h]
  exact List.mem_cons_of_mem _ (List.mem_cons_of_mem _ (List.mem_cons_of_mem _ (List.mem_cons_of_mem _ (List.mem_cons_of_mem _ (List.mem_cons_of_mem _ (List.mem_cons_self))))))
set_option maxRecDepth 20000 in
theorem k_pm125_0 : k_c125_0 ∈ k_P.2.1 125 := by
  have h : k_P.2.1 125 = [k_c125_0, k_c125_1, k_c125_2, k_c125_3] := by rfl
  rw [h]
  exact List.mem_cons_self
set_option maxRecDepth 20000 in
theorem k_pm125_1 : k_c125_1 ∈ k_P.2.1 125 := by
  have h : k_P.2.1 125 = [k_c125_0, k_c125_1, k_c125_2, k_c125_3] := by rfl
  rw [h]
  exact List.mem_cons_of_mem _ (List.mem_cons_self)
set_option maxRecDepth 20000 in
theorem k_pm125_2 : k_c125_2 ∈ k_P.2.1 125 := by
  have h : k_P.2.1 125 = [k_c125_0, k_c125_1, k_c125_2, k_c125_3] := by rfl
  rw [h]
  exact List.mem_cons_of_mem _ (List.mem_cons_of_mem _ (List.mem_cons_self))
set_option maxRecDepth 20000 in
theorem k_pm125_3 : k_c125_3 ∈ k_P.2.1 125 := by
  have h : k_P.2.1 125 = [k_c125_0, k_c125_1, k_c125_2, k_c125_3] := by rfl
  rw [h]
  exact List.mem_cons_of_mem _ (List.mem_cons_of_mem _ (List.mem_cons_of_mem _ (List.mem_cons_self)))
set_option maxRecDepth 20000 in
theorem k_pm127_0 : k_c127_0 ∈ k_P.2.1 127 := by
  have h : k_P.2.1 127 = [k_c127_0] := by rfl
  rw [h]
  exact List.mem_cons_self
set_option maxRecDepth 20000 in
theorem k_pm128_0 : k_c128_0 ∈ k_P.2.1 128 := by
  have h : k_P.2.1 128 = [k_c128_0, k_c128_1, k_c128_2, k_c128_3, k_c128_4, k_c128_5, k_c128_6, k_c128_7] := by rfl
  rw [h]
  exact List.mem_cons_self
set_option maxRecDepth 20000 in
theorem k_pm128_1 : k_c128_1 ∈ k_P.2.1 128 := by
  have h : k_P.2.1 128 = [k_c128_0, k_c128_1, k_c128_2, k_c128_3, k_c128_4, k_c128_5, k_c128_6, k_c128_7] := by rfl
  rw [h]
  exact List.mem_cons_of_mem _ (List.mem_cons_self)
set_option maxRecDepth 20000 in
theorem k_pm128_2 : k_c128_2 ∈ k_P.2.1 128 := by
  have h : k_P.2.1 128 = [k_c128_0, k_c128_1, k_c128_2, k_c128_3, k_c128_4, k_c128_5, k_c128_6, k_c128_7] := by rfl
  rw [h]
  exact List.mem_cons_of_mem _ (List.mem_cons_of_mem _ (List.mem_cons_self))
set_option maxRecDepth 20000 in
theorem k_pm128_3 : k_c128_3 ∈ k_P.2.1 128 := by
  have h : k_P.2.1 128 = [k_c128_0, k_c128_1, k_c128_2, k_c128_3, k_c128_4, k_c128_5, k_c128_6, k_c128_7] := by rfl
  rw [h]
  exact List.mem_cons_of_mem _ (List.mem_cons_of_mem _ (List.mem_cons_of_mem _ (List.mem_cons_self)))
set_option maxRecDepth 20000 in
theorem k_pm128_4 : k_c128_4 ∈ k_P.2.1 128 := by
  have h : k_P.2.1 128 = [k_c128_0, k_c128_1, k_c128_2, k_c128_3, k_c128_4, k_c128_5, k_c128_6, k_c128_7] := by rfl
  rw [h]
  exact List.mem_cons_of_mem _ (List.mem_cons_of_mem _ (List.mem_cons_of_mem _ (List.mem_cons_of_mem _ (List.mem_cons_self))))
set_option maxRecDepth 20000 in
theorem k_pm128_5 : k_c128_5 ∈ k_P.2.1 128 := by
  have h : k_P.2.1 128 = [k_c128_0, k_c128_1, k_c128_2, k_c128_3, k_c128_4, k_c128_5, k_c128_6, k_c128_7] := by rfl
  rw [h]
  exact List.mem_cons_of_mem _ (List.mem_cons_of_mem _ (List.mem_cons_of_mem _ (List.mem_cons_of_mem _ (List.mem_cons_of_mem _ (List.mem_cons_self)))))
set_option maxRecDepth 20000 in
theorem k_pm128_6 : k_c128_6 ∈ k_P.2.1 128 := by
  have h : k_P.2.1 128 = [k_c128_0, k_c128_1, k_c128_2, k_c128_3, k_c128_4, k_c128_5, k_c128_6, k_c128_7] := by rfl
  rw [h]
  exact List.mem_cons_of_mem _ (List.mem_cons_of_mem _ (List.mem_cons_of_mem _ (List.mem_cons_of_mem _ (List.mem_cons_of_mem _ (List.mem_cons_of_mem _ (List.mem_cons_self))))))
set_option maxRecDepth 20000 in
theorem k_pm128_7 : k_c128_7 ∈ k_P.2.1 128 := by
  have h : k_P.2.1 128 = [k_c128_0, k_c128_1, k_c128_2, k_c128_3, k_c128_4, k_c128_5, k_c128_6, k_c128_7] := by rfl
  rw [h]
  exact List.mem_cons_of_mem _ (List.mem_cons_of_mem _ (List.mem_cons_of_mem _ (List.mem_cons_of_mem _ (List.mem_cons_of_mem _ (List.mem_cons_of_mem _ (List.mem_cons_of_mem _ (List.mem_cons_self)))))))
set_option maxRecDepth 20000 in
theorem k_pm129_0 : k_c129_0 ∈ k_P.2.1 129 := by
  have h : k_P.2.1 129 = [k_c129_0] := by rfl
  rw [h]
  exact List.mem_cons_self
set_option maxRecDepth 20000 in
theorem k_pm132_0 : k_c132_0 ∈ k_P.2.1 132 := by
  have h : k_P.2.1 132 = [k_c132_0] := by rfl
  rw [h]
  exact List.mem_cons_self
set_option maxRecDepth 20000 in
theorem k_pm133_0 : k_c133_0 ∈ k_P.2.1 133 := by
  have h : k_P.2.1 133 = [k_c133_0] := by rfl
  rw [h]
  exact List.mem_cons_self
set_option maxRecDepth 20000 in
theorem k_pm134_0 : k_c134_0 ∈ k_P.2.1 134 := by
  have h : k_P.2.1 134 = [k_c134_0] := by rfl
  rw [h]
  exact List.mem_cons_self
set_option maxRecDepth 20000 in
theorem k_pm143_0 : k_c143_0 ∈ k_P.2.1 143 := by
  have h : k_P.2.1 143 = [k_c143_0] := by rfl
  rw [h]
  exact List.mem_cons_self
set_option maxRecDepth 20000 in
theorem k_pm144_0 : k_c144_0 ∈ k_P.2.1 144 := by
  have h : k_P.2.1 144 = [k_c144_0] := by rfl
  rw [h]
  exact List.mem_cons_self
set_option maxRecDepth 20000 in
theorem k_pm145_0 : k_c145_0 ∈ k_P.2.1 145 := by
  have h : k_P.2.1 145 = [k_c145_0] := by rfl
  rw [h]
  exact List.mem_cons_self
set_option maxRecDepth 20000 in
theorem k_pm146_0 : k_c146_0 ∈ k_P.2.1 146 := by
  have h : k_P.2.1 146 = [k_c146_0] := by rfl
  rw [h]
  exact List.mem_cons_self
set_option maxRecDepth 20000 in
theorem k_pm147_0 : k_c147_0 ∈ k_P.2.1 147 := by
  have h : k_P.2.1 147 = [k_c147_0] := by rfl
  rw [h]
  exact List.mem_cons_self
set_option maxRecDepth 20000 in
theorem k_pm148_0 : k_c148_0 ∈ k_P.2.1 148 := by
  have h : k_P.2.1 148 = [k_c148_0] := by rfl
  rw [h]
  exact List.mem_cons_self
set_option maxRecDepth 20000 in
theorem k_pm149_0 : k_c149_0 ∈ k_P.2.1 149 := by
  have h : k_P.2.1 149 = [k_c149_0] := by rfl
  rw [h]
  exact List.mem_cons_self
set_option maxRecDepth 20000 in
theorem k_pm150_0 : k_c150_0 ∈ k_P.2.1 150 := by
  have h : k_P.2.1 150 = [k_c150_0] := by rfl
  rw [h]
  exact List.mem_cons_self
set_option maxRecDepth 20000 in
theorem k_pm151_0 : k_c151_0 ∈ k_P.2.1 151 := by
  have h : k_P.2.1 151 = [k_c151_0] := by rfl
  rw [h]
  exact List.mem_cons_self
set_option maxRecDepth 20000 in
theorem k_pm152_0 : k_c152_0 ∈ k_P.2.1 152 := by
  have h : k_P.2.1 152 = [k_c152_0] := by rfl
  rw [h]
  exact List.mem_cons_self
set_option maxRecDepth 20000 in
theorem k_pm154_0 : k_c154_0 ∈ k_P.2.1 154 := by
  have h : k_P.2.1 154 = [k_c154_0] := by rfl
  rw [h]
  exact List.mem_cons_self
set_option maxRecDepth 20000 in
theorem k_pm155_0 : k_c155_0 ∈ k_P.2.1 155 := by
  have h : k_P.2.1 155 = [k_c155_0] := by rfl
  rw [h]
  exact List.mem_cons_self
set_option maxRecDepth 20000 in
theorem k_pm157_0 : k_c157_0 ∈ k_P.2.1 157 := by
  have h : k_P.2.1 157 = [k_c157_0] := by rfl
  rw [h]
  exact List.mem_cons_self
set_option maxRecDepth 20000 in
theorem k_pm160_0 : k_c160_0 ∈ k_P.2.1 160 := by
  have h : k_P.2.1 160 = [k_c160_0] := by rfl
  rw [h]
  exact List.mem_cons_self
set_option maxRecDepth 20000 in
theorem k_pm161_0 : k_c161_0 ∈ k_P.2.1 161 := by
  have h : k_P.2.1 161 = [k_c161_0] := by rfl
  rw [h]
  exact List.mem_cons_self
set_option maxRecDepth 20000 in
theorem k_pm162_0 : k_c162_0 ∈ k_P.2.1 162 := by
  have h : k_P.2.1 162 = [k_c162_0] := by rfl
  rw [h]
  exact List.mem_cons_self
set_option maxRecDepth 20000 in
theorem k_pm163_0 : k_c163_0 ∈ k_P.2.1 163 := by
  have h : k_P.2.1 163 = [k_c163_0] := by rfl
  rw [h]
  exact List.mem_cons_self
set_option maxRecDepth 20000 in
theorem k_pm164_0 : k_c164_0 ∈ k_P.2.1 164 := by
  have h : k_P.2.1 164 = [k_c164_0] := by rfl
  rw [h]
  exact List.mem_cons_self
set_option maxRecDepth 20000 in
theorem k_pm165_0 : k_c165_0 ∈ k_P.2.1 165 := by
  have h : k_P.2.1 165 = [k_c165_0] := by rfl
  rw [h]
  exact List.mem_cons_self
set_option maxRecDepth 20000 in
theorem k_pm166_0 : k_c166_0 ∈ k_P.2.1 166 := by
  have h : k_P.2.1 166 = [k_c166_0] := by rfl
  rw [h]
  exact List.mem_cons_self
set_option maxRecDepth 20000 in
theorem k_pm167_0 : k_c167_0 ∈ k_P.2.1 167 := by
  have h : k_P.2.1 167 = [k_c167_0] := by rfl
  rw [h]
  exact List.mem_cons_self
set_option maxRecDepth 20000 in
theorem k_pm169_0 : k_c169_0 ∈ k_P.2.1 169 := by
  have h : k_P.2.1 169 = [k_c169_0] := by rfl
  rw [h]
  exact List.mem_cons_self
set_option maxRecDepth 20000 in
theorem k_pm170_0 : k_c170_0 ∈ k_P.2.1 170 := by
  have h : k_P.2.1 170 = [k_c170_0] := by rfl
  rw [h]
  exact List.mem_cons_self
set_option maxRecDepth 20000 in
theorem k_pm171_0 : k_c171_0 ∈ k_P.2.1 171 := by
  have h : k_P.2.1 171 = [k_c171_0] := by rfl
  rw [h]
  exact List.mem_cons_self
set_option maxRecDepth 20000 in
theorem k_pm173_0 : k_c173_0 ∈ k_P.2.1 173 := by
  have h : k_P.2.1 173 = [k_c173_0] := by rfl
  rw [h]
  exact List.mem_cons_self
set_option maxRecDepth 20000 in
theorem k_pm174_0 : k_c174_0 ∈ k_P.2.1 174 := by
  have h : k_P.2.1 174 = [k_c174_0] := by rfl
  rw [h]
  exact List.mem_cons_self
set_option maxRecDepth 20000 in
theorem k_pm176_0 : k_c176_0 ∈ k_P.2.1 176 := by
  have h : k_P.2.1 176 = [k_c176_0] := by rfl
  rw [h]
  exact List.mem_cons_self
set_option maxRecDepth 20000 in
theorem k_pm177_0 : k_c177_0 ∈ k_P.2.1 177 := by
  have h : k_P.2.1 177 = [k_c177_0] := by rfl
  rw [h]
  exact List.mem_cons_self
set_option maxRecDepth 20000 in
theorem k_pm180_0 : k_c180_0 ∈ k_P.2.1 180 := by
  have h : k_P.2.1 180 = [k_c180_0] := by rfl
  rw [h]
  exact List.mem_cons_self
set_option maxRecDepth 20000 in
theorem k_pm181_0 : k_c181_0 ∈ k_P.2.1 181 := by
  have h : k_P.2.1 181 = [k_c181_0] := by rfl
  rw [h]
  exact List.mem_cons_self
set_option maxRecDepth 20000 in
theorem k_pm184_0 : k_c184_0 ∈ k_P.2.1 184 := by
  have h : k_P.2.1 184 = [k_c184_0] := by rfl
  rw [h]
  exact List.mem_cons_self
set_option maxRecDepth 20000 in
theorem k_pm186_0 : k_c186_0 ∈ k_P.2.1 186 := by
  have h : k_P.2.1 186 = [k_c186_0] := by rfl
  rw [h]
  exact List.mem_cons_self
set_option maxRecDepth 20000 in
theorem k_pm188_0 : k_c188_0 ∈ k_P.2.1 188 := by
  have h : k_P.2.1 188 = [k_c188_0] := by rfl
  rw [h]
  exact List.mem_cons_self
set_option maxRecDepth 20000 in
theorem k_pm190_0 : k_c190_0 ∈ k_P.2.1 190 := by
  have h : k_P.2.1 190 = [k_c190_0] := by rfl
  rw [h]
  exact List.mem_cons_self
set_option maxRecDepth 20000 in
theorem k_pm191_0 : k_c191_0 ∈ k_P.2.1 191 := by
  have h : k_P.2.1 191 = [k_c191_0] := by rfl
  rw [h]
  exact List.mem_cons_self
set_option maxRecDepth 20000 in
theorem k_pm192_0 : k_c192_0 ∈ k_P.2.1 192 := by
  have h : k_P.2.1 192 = [k_c192_0] := by rfl
  rw [h]
  exact List.mem_cons_self
set_option maxRecDepth 20000 in
theorem k_pm193_0 : k_c193_0 ∈ k_P.2.1 193 := by
  have h : k_P.2.1 193 = [k_c193_0] := by rfl
  rw [h]
  exact List.mem_cons_self
set_option maxRecDepth 20000 in
theorem k_pm195_0 : k_c195_0 ∈ k_P.2.1 195 := by
  have h : k_P.2.1 195 = [k_c195_0] := by rfl
  rw [h]
  exact List.mem_cons_self
set_option maxRecDepth 20000 in
theorem k_pm196_0 : k_c196_0 ∈ k_P.2.1 196 := by
  have h : k_P.2.1 196 = [k_c196_0] := by rfl
  rw [h]
  exact List.mem_cons_self
set_option maxRecDepth 20000 in
theorem k_pm197_0 : k_c197_0 ∈ k_P.2.1 197 := by
  have h : k_P.2.1 197 = [k_c197_0] := by rfl
  rw [h]
  exact List.mem_cons_self
set_option maxRecDepth 20000 in
theorem k_pm198_0 : k_c198_0 ∈ k_P.2.1 198 := by
  have h : k_P.2.1 198 = [k_c198_0, k_c198_1, k_c198_2, k_c198_3, k_c198_4] := by rfl
  rw [h]
  exact List.mem_cons_self
set_option maxRecDepth 20000 in
theorem k_pm198_1 : k_c198_1 ∈ k_P.2.1 198 := by
  have h : k_P.2.1 198 = [k_c198_0, k_c198_1, k_c198_2, k_c198_3, k_c198_4] := by rfl
  rw [h]
  exact List.mem_cons_of_mem _ (List.mem_cons_self)
set_option maxRecDepth 20000 in
theorem k_pm198_2 : k_c198_2 ∈ k_P.2.1 198 := by
  have h : k_P.2.1 198 = [k_c198_0, k_c198_1, k_c198_2, k_c198_3, k_c198_4] := by rfl
  rw [h]
  exact List.mem_cons_of_mem _ (List.mem_cons_of_mem _ (List.mem_cons_self))
set_option maxRecDepth 20000 in
theorem k_pm198_3 : k_c198_3 ∈ k_P.2.1 198 := by
  have h : k_P.2.1 198 = [k_c198_0, k_c198_1, k_c198_2, k_c198_3, k_c198_4] := by rfl
  rw [h]
  exact List.mem_cons_of_mem _ (List.mem_cons_of_mem _ (List.mem_cons_of_mem _ (List.mem_cons_self)))
set_option maxRecDepth 20000 in
theorem k_pm198_4 : k_c198_4 ∈ k_P.2.1 198 := by
  have h : k_P.2.1 198 = [k_c198_0, k_c198_1, k_c198_2, k_c198_3, k_c198_4] := by rfl
  rw [h]
  exact List.mem_cons_of_mem _ (List.mem_cons_of_mem _ (List.mem_cons_of_mem _ (List.mem_cons_of_mem _ (List.mem_cons_self))))
set_option maxRecDepth 20000 in
theorem k_pm199_0 : k_c199_0 ∈ k_P.2.1 199 := by
  have h : k_P.2.1 199 = [k_c199_0] := by rfl
  rw [h]
  exact List.mem_cons_self
set_option maxRecDepth 20000 in
theorem k_pm201_0 : k_c201_0 ∈ k_P.2.1 201 := by
  have h : k_P.2.1 201 = [k_c201_0] := by rfl
  rw [h]
  exact List.mem_cons_self
set_option maxRecDepth 20000 in
theorem k_pm202_0 : k_c202_0 ∈ k_P.2.1 202 := by
  have h : k_P.2.1 202 = [k_c202_0] := by rfl
  rw [h]
  exact List.mem_cons_self
set_option maxRecDepth 20000 in
theorem k_pm203_0 : k_c203_0 ∈ k_P.2.1 203 := by
  have h : k_P.2.1 203 = [k_c203_0] := by rfl
  rw [h]
  exact List.mem_cons_self
set_option maxRecDepth 20000 in
theorem k_pm210_0 : k_c210_0 ∈ k_P.2.1 210 := by
  have h : k_P.2.1 210 = [k_c210_0, k_c210_1, k_c210_2, k_c210_3, k_c210_4, k_c210_5, k_c210_6] := by rfl
  rw [h]
  exact List.mem_cons_self
set_option maxRecDepth 20000 in
theorem k_pm210_1 : k_c210_1 ∈ k_P.2.1 210 := by
  have h : k_P.2.1 210 = [k_c210_0, k_c210_1, k_c210_2, k_c210_3, k_c210_4, k_c210_5, k_c210_6] := by rfl
  rw [h]
  exact List.mem_cons_of_mem _ (List.mem_cons_self)
set_option maxRecDepth 20000 in
theorem k_pm210_2 : k_c210_2 ∈ k_P.2.1 210 := by
  have h : k_P.2.1 210 = [k_c210_0, k_c210_1, k_c210_2, k_c210_3, k_c210_4, k_c210_5, k_c210_6] := by rfl
  rw [h]
  exact List.mem_cons_of_mem _ (List.mem_cons_of_mem _ (List.mem_cons_self))
set_option maxRecDepth 20000 in
theorem k_pm210_3 : k_c210_3 ∈ k_P.2.1 210 := by
  have h : k_P.2.1 210 = [k_c210_0, k_c210_1, k_c210_2, k_c210_3, k_c210_4, k_c210_5, k_c210_6] := by rfl
  rw [h]
  exact List.mem_cons_of_mem _ (List.mem_cons_of_mem _ (List.mem_cons_of_mem _ (List.mem_cons_self)))
set_option maxRecDepth 20000 in
theorem k_pm210_4 : k_c210_4 ∈ k_P.2.1 210 := by
  have h : k_P.2.1 210 = [k_c210_0, k_c210_1, k_c210_2, k_c210_3, k_c210_4, k_c210_5, k_c210_6] := by rfl
  rw [h]
  exact List.mem_cons_of_mem _ (List.mem_cons_of_mem _ (List.mem_cons_of_mem _ (List.mem_cons_of_mem _ (List.mem_cons_self))))
set_option maxRecDepth 20000 in
theorem k_pm210_5 : k_c210_5 ∈ k_P.2.1 210 := by
  have h : k_P.2.1 210 = [k_c210_0, k_c210_1, k_c210_2, k_c210_3, k_c210_4, k_c210_5, k_c210_6] := by rfl
  rw [h]
  exact List.mem_cons_of_mem _ (List.mem_cons_of_mem _ (List.mem_cons_of_mem _ (List.mem_cons_of_mem _ (List.mem_cons_of_mem _ (List.mem_cons_self)))))
set_option maxRecDepth 20000 in
theorem k_pm210_6 : k_c210_6 ∈ k_P.2.1 210 := by
  have h : k_P.2.1 210 = [k_c210_0, k_c210_1, k_c210_2, k_c210_3, k_c210_4, k_c210_5, k_c210_6] := by rfl
  rw [h]
  exact List.mem_cons_of_mem _ (List.mem_cons_of_mem _ (List.mem_cons_of_mem _ (List.mem_cons_of_mem _ (List.mem_cons_of_mem _ (List.mem_cons_of_mem _ (List.mem_cons_self))))))
set_option maxRecDepth 20000 in
theorem k_pm213_0 : k_c213_0 ∈ k_P.2.1 213 := by
  have h : k_P.2.1 213 = [k_c213_0, k_c213_1, k_c213_2, k_c213_3] := by rfl
  rw [h]
  exact List.mem_cons_self
set_option maxRecDepth 20000 in
theorem k_pm213_1 : k_c213_1 ∈ k_P.2.1 213 := by
  have h : k_P.2.1 213 = [k_c213_0, k_c213_1, k_c213_2, k_c213_3] := by rfl
  rw [h]
  exact List.mem_cons_of_mem _ (List.mem_cons_self)
set_option maxRecDepth 20000 in
theorem k_pm213_2 : k_c213_2 ∈ k_P.2.1 213 := by
  have h : k_P.2.1 213 = [k_c213_0, k_c213_1, k_c213_2, k_c213_3] := by rfl
  rw [h]
  exact List.mem_cons_of_mem _ (List.mem_cons_of_mem _ (List.mem_cons_self))
set_option maxRecDepth 20000 in
theorem k_pm213_3 : k_c213_3 ∈ k_P.2.1 213 := by
  have h : k_P.2.1 213 = [k_c213_0, k_c213_1, k_c213_2, k_c213_3] := by rfl
  rw [h]
  exact List.mem_cons_of_mem _ (List.mem_cons_of_mem _ (List.mem_cons_of_mem _ (List.mem_cons_self)))
set_option maxRecDepth 20000 in
theorem k_pm214_0 : k_c214_0 ∈ k_P.2.1 214 := by
  have h : k_P.2.1 214 = [k_c214_0] := by rfl
  rw [h]
  exact List.mem_cons_self
set_option maxRecDepth 20000 in
theorem k_pm215_0 : k_c215_0 ∈ k_P.2.1 215 := by
  have h : k_P.2.1 215 = [k_c215_0, k_c215_1, k_c215_2, k_c215_3, k_c215_4, k_c215_5, k_c215_6, k_c215_7] := by rfl
  rw [h]
  exact List.mem_cons_self
set_option maxRecDepth 20000 in
theorem k_pm215_1 : k_c215_1 ∈ k_P.2.1 215 := by
  have h : k_P.2.1 215 = [k_c215_0, k_c215_1, k_c215_2, k_c215_3, k_c215_4, k_c215_5, k_c215_6, k_c215_7] := by rfl
  rw [h]
  exact List.mem_cons_of_mem _ (List.mem_cons_self)
set_option maxRecDepth 20000 in
theorem k_pm215_2 : k_c215_2 ∈ k_P.2.1 215 := by
  have h : k_P.2.1 215 = [k_c215_0, k_c215_1, k_c215_2, k_c215_3, k_c215_4, k_c215_5, k_c215_6, k_c215_7] := by rfl
  rw [h]
  exact List.mem_cons_of_mem _ (List.mem_cons_of_mem _ (List.mem_cons_self))
set_option maxRecDepth 20000 in
theorem k_pm215_3 : k_c215_3 ∈ k_P.2.1 215 := by
  have h : k_P.2.1 215 = [k_c215_0, k_c215_1, k_c215_2, k_c215_3, k_c215_4, k_c215_5, k_c215_6, k_c215_7] := by rfl
  rw [h]
  exact List.mem_cons_of_mem _ (List.mem_cons_of_mem _ (List.mem_cons_of_mem _ (List.mem_cons_self)))
set_option maxRecDepth 20000 in
theorem k_pm215_4 : k_c215_4 ∈ k_P.2.1 215 := by
  have h : k_P.2.1 215 = [k_c215_0, k_c215_1, k_c215_2, k_c215_3, k_c215_4, k_c215_5, k_c215_6, k_c215_7] := by rfl
  rw [h]
  exact List.mem_cons_of_mem _ (List.mem_cons_of_mem _ (List.mem_cons_of_mem _ (List.mem_cons_of_mem _ (List.mem_cons_self))))
set_option maxRecDepth 20000 in
theorem k_pm215_5 : k_c215_5 ∈ k_P.2.1 215 := by
  have h : k_P.2.1 215 = [k_c215_0, k_c215_1, k_c215_2, k_c215_3, k_c215_4, k_c215_5, k_c215_6, k_c215_7] := by rfl
  rw [h]
  exact List.mem_cons_of_mem _ (List.mem_cons_of_mem _ (List.mem_cons_of_mem _ (List.mem_cons_of_mem _ (List.mem_cons_of_mem _ (List.mem_cons_self)))))
set_option maxRecDepth 20000 in
theorem k_pm215_6 : k_c215_6 ∈ k_P.2.1 215 := by
  have h : k_P.2.1 215 = [k_c215_0, k_c215_1, k_c215_2, k_c215_3, k_c215_4, k_c215_5, k_c215_6, k_c215_7] := by rfl
  rw [h]
  exact List.mem_cons_of_mem _ (List.mem_cons_of_mem _ (List.mem_cons_of_mem _ (List.mem_cons_of_mem _ (List.mem_cons_of_mem _ (List.mem_cons_of_mem _ (List.mem_cons_self))))))
set_option maxRecDepth 20000 in
theorem k_pm215_7 : k_c215_7 ∈ k_P.2.1 215 := by
  have h : k_P.2.1 215 = [k_c215_0, k_c215_1, k_c215_2, k_c215_3, k_c215_4, k_c215_5, k_c215_6, k_c215_7] := by rfl
  rw [h]
  exact List.mem_cons_of_mem _ (List.mem_cons_of_mem _ (List.mem_cons_of_mem _ (List.mem_cons_of_mem _ (List.mem_cons_of_mem _ (List.mem_cons_of_mem _ (List.mem_cons_of_mem _ (List.mem_cons_self)))))))
set_option maxRecDepth 20000 in
theorem k_pm236_0 : k_c236_0 ∈ k_P.2.1 236 := by
  have h : k_P.2.1 236 = [k_c236_0] := by rfl
  rw [h]
  exact List.mem_cons_self
set_option maxRecDepth 20000 in
theorem k_pm250_0 : k_c250_0 ∈ k_P.2.1 250 := by
  have h : k_P.2.1 250 = [k_c250_0] := by rfl
  rw [h]
  exact List.mem_cons_self
set_option maxRecDepth 20000 in
theorem k_pm251_0 : k_c251_0 ∈ k_P.2.1 251 := by
  have h : k_P.2.1 251 = [k_c251_0] := by rfl
  rw [h]
  exact List.mem_cons_self
set_option maxRecDepth 20000 in
theorem k_pm257_0 : k_c257_0 ∈ k_P.2.1 257 := by
  have h : k_P.2.1 257 = [k_c257_0] := by rfl
  rw [h]
  exact List.mem_cons_self
set_option maxRecDepth 20000 in
theorem k_pm258_0 : k_c258_0 ∈ k_P.2.1 258 := by
  have h : k_P.2.1 258 = [k_c258_0] := by rfl
  rw [h]
  exact List.mem_cons_self
set_option maxRecDepth 20000 in
theorem k_pm262_0 : k_c262_0 ∈ k_P.2.1 262 := by
  have h : k_P.2.1 262 = [k_c262_0] := by rfl
  rw [h]
  exact List.mem_cons_self
set_option maxRecDepth 20000 in
theorem k_pm264_0 : k_c264_0 ∈ k_P.2.1 264 := by
  have h : k_P.2.1 264 = [k_c264_0] := by rfl
  rw [h]
  exact List.mem_cons_self
set_option maxRecDepth 20000 in
theorem k_pm265_0 : k_c265_0 ∈ k_P.2.1 265 := by
  have h : k_P.2.1 265 = [k_c265_0] := by rfl
  rw [h]
  exact List.mem_cons_self
set_option maxRecDepth 20000 in
theorem k_pm266_0 : k_c266_0 ∈ k_P.2.1 266 := by
  have h : k_P.2.1 266 = [k_c266_0] := by rfl
  rw [h]
  exact List.mem_cons_self
set_option maxRecDepth 20000 in
theorem k_pm267_0 : k_c267_0 ∈ k_P.2.1 267 := by
  have h : k_P.2.1 267 = [k_c267_0] := by rfl
  rw [h]
  exact List.mem_cons_self
set_option maxRecDepth 20000 in
theorem k_pm268_0 : k_c268_0 ∈ k_P.2.1 268 := by
  have h : k_P.2.1 268 = [k_c268_0] := by rfl
  rw [h]
  exact List.mem_cons_self
set_option maxRecDepth 20000 in
theorem k_pm269_0 : k_c269_0 ∈ k_P.2.1 269 := by
  have h : k_P.2.1 269 = [k_c269_0] := by rfl
  rw [h]
  exact List.mem_cons_self
set_option maxRecDepth 20000 in
theorem k_pm270_0 : k_c270_0 ∈ k_P.2.1 270 := by
  have h : k_P.2.1 270 = [k_c270_0] := by rfl
  rw [h]
  exact List.mem_cons_self
set_option maxRecDepth 20000 in
theorem k_pm271_0 : k_c271_0 ∈ k_P.2.1 271 := by
  have h : k_P.2.1 271 = [k_c271_0] := by rfl
  rw [h]
  exact List.mem_cons_self
set_option maxRecDepth 20000 in
theorem k_pm276_0 : k_c276_0 ∈ k_P.2.1 276 := by
  have h : k_P.2.1 276 = [k_c276_0] := by rfl
  rw [h]
  exact List.mem_cons_self
set_option maxRecDepth 20000 in
theorem k_pm277_0 : k_c277_0 ∈ k_P.2.1 277 := by
  have h : k_P.2.1 277 = [k_c277_0] := by rfl
  rw [h]
  exact List.mem_cons_self
set_option maxRecDepth 20000 in
theorem k_pm285_0 : k_c285_0 ∈ k_P.2.1 285 := by
  have h : k_P.2.1 285 = [k_c285_0] := by rfl
  rw [h]
  exact List.mem_cons_self
set_option maxRecDepth 20000 in
theorem k_pm287_0 : k_c287_0 ∈ k_P.2.1 287 := by
  have h : k_P.2.1 287 = [k_c287_0] := by rfl
  rw [h]
  exact List.mem_cons_self
set_option maxRecDepth 20000 in
theorem k_pm288_0 : k_c288_0 ∈ k_P.2.1 288 := by
  have h : k_P.2.1 288 = [k_c288_0] := by rfl
  rw [h]
  exact List.mem_cons_self
set_option maxRecDepth 20000 in
theorem k_pm291_0 : k_c291_0 ∈ k_P.2.1 291 := by
  have h : k_P.2.1 291 = [k_c291_0] := by rfl
  rw [h]
  exact List.mem_cons_self
set_option maxRecDepth 20000 in
theorem k_pm292_0 : k_c292_0 ∈ k_P.2.1 292 := by
  have h : k_P.2.1 292 = [k_c292_0] := by rfl
  rw [h]
  exact List.mem_cons_self
set_option maxRecDepth 20000 in
theorem k_pm293_0 : k_c293_0 ∈ k_P.2.1 293 := by
  have h : k_P.2.1 293 = [k_c293_0] := by rfl
  rw [h]
  exact List.mem_cons_self
set_option maxRecDepth 20000 in
theorem k_pm295_0 : k_c295_0 ∈ k_P.2.1 295 := by
  have h : k_P.2.1 295 = [k_c295_0] := by rfl
  rw [h]
  exact List.mem_cons_self
set_option maxRecDepth 20000 in
theorem k_pm296_0 : k_c296_0 ∈ k_P.2.1 296 := by
  have h : k_P.2.1 296 = [k_c296_0] := by rfl
  rw [h]
  exact List.mem_cons_self
set_option maxRecDepth 20000 in
theorem k_pm298_0 : k_c298_0 ∈ k_P.2.1 298 := by
  have h : k_P.2.1 298 = [k_c298_0] := by rfl
  rw [h]
  exact List.mem_cons_self
set_option maxRecDepth 20000 in
theorem k_pm299_0 : k_c299_0 ∈ k_P.2.1 299 := by
  have h : k_P.2.1 299 = [k_c299_0] := by rfl
  rw [h]
  exact List.mem_cons_self
set_option maxRecDepth 20000 in
theorem k_pm300_0 : k_c300_0 ∈ k_P.2.1 300 := by
  have h : k_P.2.1 300 = [k_c300_0] := by rfl
  rw [h]
  exact List.mem_cons_self
set_option maxRecDepth 20000 in
theorem k_pm301_0 : k_c301_0 ∈ k_P.2.1 301 := by
  have h : k_P.2.1 301 = [k_c301_0] := by rfl
  rw [h]
  exact List.mem_cons_self
set_option maxRecDepth 20000 in
theorem k_pm303_0 : k_c303_0 ∈ k_P.2.1 303 := by
  have h : k_P.2.1 303 = [k_c303_0] := by rfl
  rw [h]
  exact List.mem_cons_self
set_option maxRecDepth 20000 in
theorem k_pm304_0 : k_c304_0 ∈ k_P.2.1 304 := by
  have h : k_P.2.1 304 = [k_c304_0] := by rfl
  rw [h]
  exact List.mem_cons_self
set_option maxRecDepth 20000 in
theorem k_pm306_0 : k_c306_0 ∈ k_P.2.1 306 := by
  have h : k_P.2.1 306 = [k_c306_0] := by rfl
  rw [h]
  exact List.mem_cons_self
set_option maxRecDepth 20000 in
theorem k_pm307_0 : k_c307_0 ∈ k_P.2.1 307 := by
  have h : k_P.2.1 307 = [k_c307_0] := by rfl
  rw [h]
  exact List.mem_cons_self
set_option maxRecDepth 20000 in
theorem k_pm310_0 : k_c310_0 ∈ k_P.2.1 310 := by
  have h : k_P.2.1 310 = [k_c310_0] := by rfl
  rw [h]
  exact List.mem_cons_self
set_option maxRecDepth 20000 in
theorem k_pm311_0 : k_c311_0 ∈ k_P.2.1 311 := by
  have h : k_P.2.1 311 = [k_c311_0] := by rfl
  rw [h]
  exact List.mem_cons_self
set_option maxRecDepth 20000 in
theorem k_pm314_0 : k_c314_0 ∈ k_P.2.1 314 := by
  have h : k_P.2.1 314 = [k_c314_0] := by rfl
  rw [h]
  exact List.mem_cons_self
set_option maxRecDepth 20000 in
theorem k_pm318_0 : k_c318_0 ∈ k_P.2.1 318 := by
  have h : k_P.2.1 318 = [k_c318_0] := by rfl
  rw [h]
  exact List.mem_cons_self
set_option maxRecDepth 20000 in
theorem k_pm319_0 : k_c319_0 ∈ k_P.2.1 319 := by
  have h : k_P.2.1 319 = [k_c319_0] := by rfl
  rw [h]
  exact List.mem_cons_self
set_option maxRecDepth 20000 in
theorem k_pm325_0 : k_c325_0 ∈ k_P.2.1 325 := by
  have h : k_P.2.1 325 = [k_c325_0] := by rfl
  rw [h]
  exact List.mem_cons_self
set_option maxRecDepth 20000 in
theorem k_pm331_0 : k_c331_0 ∈ k_P.2.1 331 := by
  have h : k_P.2.1 331 = [k_c331_0] := by rfl
  rw [h]
  exact List.mem_cons_self
set_option maxRecDepth 20000 in
theorem k_pm332_0 : k_c332_0 ∈ k_P.2.1 332 := by
  have h : k_P.2.1 332 = [k_c332_0] := by rfl
  rw [h]
  exact List.mem_cons_self
set_option maxRecDepth 20000 in
theorem k_pm346_0 : k_c346_0 ∈ k_P.2.1 346 := by
  have h : k_P.2.1 346 = [k_c346_0] := by rfl
  rw [h]
  exact List.mem_cons_self
set_option maxRecDepth 20000 in
theorem k_pm349_0 : k_c349_0 ∈ k_P.2.1 349 := by
  have h : k_P.2.1 349 = [k_c349_0] := by rfl
  rw [h]
  exact List.mem_cons_self
set_option maxRecDepth 20000 in
theorem k_pm352_0 : k_c352_0 ∈ k_P.2.1 352 := by
  have h : k_P.2.1 352 = [k_c352_0] := by rfl
  rw [h]
  exact List.mem_cons_self
set_option maxRecDepth 20000 in
theorem k_pm353_0 : k_c353_0 ∈ k_P.2.1 353 := by
  have h : k_P.2.1 353 = [k_c353_0] := by rfl
  rw [h]
  exact List.mem_cons_self
set_option maxRecDepth 20000 in
theorem k_pm355_0 : k_c355_0 ∈ k_P.2.1 355 := by
  have h : k_P.2.1 355 = [k_c355_0] := by rfl
  rw [h]
  exact List.mem_cons_self
set_option maxRecDepth 20000 in
theorem k_pm356_0 : k_c356_0 ∈ k_P.2.1 356 := by
  have h : k_P.2.1 356 = [k_c356_0] := by rfl
  rw [h]
  exact List.mem_cons_self
theorem k_case0 {p : Program} {l : Launch} {e : Env} {s : State} {m : MethodId} {below : List Frame} {meth : Method} {c : Code} {Q : State → Prop} {b L : Nat} {xs : Nat → Int32} {D : va_G} {dA : Nat → ClassId} {a1 a2 i cells slots : Nat} {ls : Array Slot} {w : cWld} {H : Heap} {locs : List Loc} (C : k_Cx p s m c b L xs D dA) (I : k_In s D dA a1 a2 w H locs ∧ k_R a1 a2 w) (hl : lv_has ls 4 (k_lv b a1 a2 i)) (hi : i + 7 ≤ L) (hcb : cells + 26 ≤ 600000) (hsb : slots + 1584 ≤ 7302250)
    (kk : ∀ (w : cWld) (H : Heap) (locs : List Loc), k_In s D dA a1 a2 w H locs ∧ k_R a1 a2 w → W p l e room_1 s m #[Value.ref b] below meth c H locs (cells + 26) (slots + 1584) Q (F0 m 1989 ls [])) : W p l e room_1 s m #[Value.ref b] below meth c H locs cells slots Q (F0 m 260 ls []) := by
  have hc0 : cells ≤ 600000 := by omega
  have hs0 : slots ≤ 7302250 := by omega
  have hc1 := hcb
  have hs1 := hsb
  obtain ⟨I, hR⟩ := I
  refine lv_aload_n C.1 C.2.1 k_L260 rfl (lv_at hl 1 rfl) ?_
  refine k_pub C I (a := 112) (idx := 13) (M := k_M112) (ct := k_c112_0) rfl k_pm112_0 rfl (k_in 3 157 rfl rfl) (by decide +kernel) (x := a1) (As := []) (rest := []) [(a1 : Int)] (k_preC 0 rfl (by decide +kernel) ⟨k_aR I.2.2.2.2.1, trivial⟩ trivial) (Nat.le_of_ble_eq_true rfl) k_L261 hc0 hs0 hl.1 (fun rv1 rs1 w1 H1 lo1 hv1 hp1 I1 => ?_)
  obtain ⟨r1, rfl, rfl⟩ := hv1
  have hR := k_RK hp1.1 (by decide +kernel) (by decide +kernel) hR
  refine lv_pop C.1 C.2.1 k_L264 rfl ?_
  refine lv_aload_n C.1 C.2.1 k_L265 rfl (lv_at hl 2 rfl) ?_
  refine k_pub C I1 (a := 201) (idx := 17) (M := k_M201) (ct := k_c201_0) rfl k_pm201_0 rfl (k_in 8 7 rfl rfl) (by decide +kernel) (x := a2) (As := []) (rest := []) [(a2 : Int)] (k_preC 0 rfl (by decide +kernel) ⟨k_aR I1.2.2.2.2.2.1, trivial⟩ trivial) (Nat.le_of_ble_eq_true rfl) k_L266 hc0 hs0 hl.1 (fun rv2 rs2 w2 H2 lo2 hv2 hp2 I2 => ?_)
  obtain ⟨r2, rfl, rfl⟩ := hv2
  have hR := k_RK hp2.1 (by decide +kernel) (by decide +kernel) hR
  refine lv_pop C.1 C.2.1 k_L269 rfl ?_
  refine lv_goto C.1 C.2.1 k_L270 (tgt := 1989) (by decide) ?_
  exact W.widen (Nat.le_add_right _ _) (Nat.le_add_right _ _) (kk _ _ _ ⟨I2, hR⟩)
theorem k_case1 {p : Program} {l : Launch} {e : Env} {s : State} {m : MethodId} {below : List Frame} {meth : Method} {c : Code} {Q : State → Prop} {b L : Nat} {xs : Nat → Int32} {D : va_G} {dA : Nat → ClassId} {a1 a2 i cells slots : Nat} {ls : Array Slot} {w : cWld} {H : Heap} {locs : List Loc} (C : k_Cx p s m c b L xs D dA) (I : k_In s D dA a1 a2 w H locs ∧ k_R a1 a2 w) (hl : lv_has ls 4 (k_lv b a1 a2 i)) (hi : i + 7 ≤ L) (hcb : cells + 26 ≤ 600000) (hsb : slots + 1584 ≤ 7302250)
    (kk : ∀ (w : cWld) (H : Heap) (locs : List Loc), k_In s D dA a1 a2 w H locs ∧ k_R a1 a2 w → W p l e room_1 s m #[Value.ref b] below meth c H locs (cells + 26) (slots + 1584) Q (F0 m 1989 ls [])) : W p l e room_1 s m #[Value.ref b] below meth c H locs cells slots Q (F0 m 273 ls []) := by
  have hc0 : cells ≤ 600000 := by omega
  have hs0 : slots ≤ 7302250 := by omega
  have hc1 := hcb
  have hs1 := hsb
  obtain ⟨I, hR⟩ := I
  refine lv_aload_n C.1 C.2.1 k_L273 rfl (lv_at hl 1 rfl) ?_
  refine k_pub C I (a := 113) (idx := 18) (M := k_M113) (ct := k_c113_0) rfl k_pm113_0 rfl (k_in 3 161 rfl rfl) (by decide +kernel) (x := a1) (As := []) (rest := []) [(a1 : Int)] (k_preC 0 rfl (by decide +kernel) ⟨k_aR I.2.2.2.2.1, trivial⟩ trivial) (Nat.le_of_ble_eq_true rfl) k_L274 hc0 hs0 hl.1 (fun rv1 rs1 w1 H1 lo1 hv1 hp1 I1 => ?_)
  obtain ⟨r1, rfl, rfl⟩ := hv1
  have hR := k_RK hp1.1 (by decide +kernel) (by decide +kernel) hR
  refine lv_pop2_2 C.1 C.2.1 k_L277 rfl ?_
  refine lv_aload_n C.1 C.2.1 k_L278 rfl (lv_at hl 2 rfl) ?_
  refine k_pub C I1 (a := 202) (idx := 22) (M := k_M202) (ct := k_c202_0) rfl k_pm202_0 rfl (k_in 8 11 rfl rfl) (by decide +kernel) (x := a2) (As := []) (rest := []) [(a2 : Int)] (k_preC 0 rfl (by decide +kernel) ⟨k_aR I1.2.2.2.2.2.1, trivial⟩ trivial) (Nat.le_of_ble_eq_true rfl) k_L279 hc0 hs0 hl.1 (fun rv2 rs2 w2 H2 lo2 hv2 hp2 I2 => ?_)
  obtain ⟨r2, rfl, rfl⟩ := hv2
  have hR := k_RK hp2.1 (by decide +kernel) (by decide +kernel) hR
  refine lv_pop2_2 C.1 C.2.1 k_L282 rfl ?_
  refine lv_goto C.1 C.2.1 k_L283 (tgt := 1989) (by decide) ?_
  exact W.widen (Nat.le_add_right _ _) (Nat.le_add_right _ _) (kk _ _ _ ⟨I2, hR⟩)
theorem k_case2 {p : Program} {l : Launch} {e : Env} {s : State} {m : MethodId} {below : List Frame} {meth : Method} {c : Code} {Q : State → Prop} {b L : Nat} {xs : Nat → Int32} {D : va_G} {dA : Nat → ClassId} {a1 a2 i cells slots : Nat} {ls : Array Slot} {w : cWld} {H : Heap} {locs : List Loc} (C : k_Cx p s m c b L xs D dA) (I : k_In s D dA a1 a2 w H locs ∧ k_R a1 a2 w) (hl : lv_has ls 4 (k_lv b a1 a2 i)) (hi : i + 7 ≤ L) (hcb : cells + 26 ≤ 600000) (hsb : slots + 1584 ≤ 7302250)
    (kk : ∀ (w : cWld) (H : Heap) (locs : List Loc), k_In s D dA a1 a2 w H locs ∧ k_R a1 a2 w → W p l e room_1 s m #[Value.ref b] below meth c H locs (cells + 26) (slots + 1584) Q (F0 m 1989 ls [])) : W p l e room_1 s m #[Value.ref b] below meth c H locs cells slots Q (F0 m 286 ls []) := by
  have hc0 : cells ≤ 600000 := by omega
  have hs0 : slots ≤ 7302250 := by omega
  have hc1 := hcb
  have hs1 := hsb
  obtain ⟨I, hR⟩ := I
  refine lv_aload_n C.1 C.2.1 k_L286 rfl (lv_at hl 1 rfl) ?_
  refine k_pub C I (a := 114) (idx := 23) (M := k_M114) (ct := k_c114_0) rfl k_pm114_0 rfl (k_in 3 165 rfl rfl) (by decide +kernel) (x := a1) (As := []) (rest := []) [(a1 : Int)] (k_preC 0 rfl (by decide +kernel) ⟨k_aR I.2.2.2.2.1, trivial⟩ trivial) (Nat.le_of_ble_eq_true rfl) k_L287 hc0 hs0 hl.1 (fun rv1 rs1 w1 H1 lo1 hv1 hp1 I1 => ?_)
  obtain ⟨r1, rfl, rfl⟩ := hv1
  have hR := k_RK hp1.1 (by decide +kernel) (by decide +kernel) hR
  refine lv_pop2_2 C.1 C.2.1 k_L290 rfl ?_
  refine lv_aload_n C.1 C.2.1 k_L291 rfl (lv_at hl 2 rfl) ?_
  refine k_pub C I1 (a := 203) (idx := 26) (M := k_M203) (ct := k_c203_0) rfl k_pm203_0 rfl (k_in 8 15 rfl rfl) (by decide +kernel) (x := a2) (As := []) (rest := []) [(a2 : Int)] (k_preC 0 rfl (by decide +kernel) ⟨k_aR I1.2.2.2.2.2.1, trivial⟩ trivial) (Nat.le_of_ble_eq_true rfl) k_L292 hc0 hs0 hl.1 (fun rv2 rs2 w2 H2 lo2 hv2 hp2 I2 => ?_)
  obtain ⟨r2, rfl, rfl⟩ := hv2
  have hR := k_RK hp2.1 (by decide +kernel) (by decide +kernel) hR
  refine lv_pop2_2 C.1 C.2.1 k_L295 rfl ?_
  refine lv_goto C.1 C.2.1 k_L296 (tgt := 1989) (by decide) ?_
  exact W.widen (Nat.le_add_right _ _) (Nat.le_add_right _ _) (kk _ _ _ ⟨I2, hR⟩)
theorem k_case3 {p : Program} {l : Launch} {e : Env} {s : State} {m : MethodId} {below : List Frame} {meth : Method} {c : Code} {Q : State → Prop} {b L : Nat} {xs : Nat → Int32} {D : va_G} {dA : Nat → ClassId} {a1 a2 i cells slots : Nat} {ls : Array Slot} {w : cWld} {H : Heap} {locs : List Loc} (C : k_Cx p s m c b L xs D dA) (I : k_In s D dA a1 a2 w H locs ∧ k_R a1 a2 w) (hl : lv_has ls 4 (k_lv b a1 a2 i)) (hi : i + 7 ≤ L) (hcb : cells + 26 ≤ 600000) (hsb : slots + 1584 ≤ 7302250)
    (kk : ∀ (w : cWld) (H : Heap) (locs : List Loc), k_In s D dA a1 a2 w H locs ∧ k_R a1 a2 w → W p l e room_1 s m #[Value.ref b] below meth c H locs (cells + 26) (slots + 1584) Q (F0 m 1989 ls [])) : W p l e room_1 s m #[Value.ref b] below meth c H locs cells slots Q (F0 m 299 ls []) := by
  have hc0 : cells ≤ 600000 := by omega
  have hs0 : slots ≤ 7302250 := by omega
  have hc1 := hcb
  have hs1 := hsb
  obtain ⟨I, hR⟩ := I
  refine lv_aload_n C.1 C.2.1 k_L299 rfl (lv_at hl 1 rfl) ?_
  refine k_arg C I hl (k := 1) (by omega) k_L300 k_L301 k_L302 (by decide) k_L303 k_L304 ?_
  refine k_arg C I hl (k := 2) (by omega) k_L305 k_L306 k_L307 (by decide) k_L308 k_L309 ?_
  refine k_arg C I hl (k := 3) (by omega) k_L310 k_L311 k_L312 (by decide) k_L313 k_L314 ?_
  refine k_pub C I (a := 123) (idx := 27) (M := k_M123) (ct := k_c123_0) rfl k_pm123_0 rfl (k_in 3 169 rfl rfl) (by decide +kernel) (x := a1) (As := [.int (xs (i + 1)), .int (xs (i + 2)), .int (xs (i + 3))]) (rest := []) [(a1 : Int), ((xs (i + 1))).toInt, ((xs (i + 2))).toInt, ((xs (i + 3))).toInt] (k_preC 0 rfl (by decide +kernel) ⟨k_aR I.2.2.2.2.1, k_aI _, k_aI _, k_aI _, trivial⟩ trivial) (Nat.le_of_ble_eq_true rfl) k_L315 hc0 hs0 hl.1 (fun rv1 rs1 w1 H1 lo1 hv1 hp1 I1 => ?_)
  obtain ⟨r1, rfl, rfl, -, -⟩ := hv1
  have hR := k_RK hp1.1 (by decide +kernel) (by decide +kernel) hR
  refine lv_pop C.1 C.2.1 k_L318 rfl ?_
  refine lv_aload_n C.1 C.2.1 k_L319 rfl (lv_at hl 2 rfl) ?_
  refine k_arg C I1 hl (k := 1) (by omega) k_L320 k_L321 k_L322 (by decide) k_L323 k_L324 ?_
  refine k_arg C I1 hl (k := 2) (by omega) k_L325 k_L326 k_L327 (by decide) k_L328 k_L329 ?_
  refine k_arg C I1 hl (k := 3) (by omega) k_L330 k_L331 k_L332 (by decide) k_L333 k_L334 ?_
  refine k_pub C I1 (a := 210) (idx := 31) (M := k_M210) (ct := k_c210_0) rfl k_pm210_0 rfl (k_in 8 19 rfl rfl) (by decide +kernel) (x := a2) (As := [.int (xs (i + 1)), .int (xs (i + 2)), .int (xs (i + 3))]) (rest := []) [(a2 : Int), ((xs (i + 1))).toInt, ((xs (i + 2))).toInt, ((xs (i + 3))).toInt] (k_preC 0 rfl (by decide +kernel) ⟨k_aR I1.2.2.2.2.2.1, k_aI _, k_aI _, k_aI _, trivial⟩ trivial) (Nat.le_of_ble_eq_true rfl) k_L335 hc0 hs0 hl.1 (fun rv2 rs2 w2 H2 lo2 hv2 hp2 I2 => ?_)
  obtain ⟨r2, rfl, rfl, -, -⟩ := hv2
  have hR := k_RK hp2.1 (by decide +kernel) (by decide +kernel) hR
  refine lv_pop C.1 C.2.1 k_L338 rfl ?_
  refine lv_goto C.1 C.2.1 k_L339 (tgt := 1989) (by decide) ?_
  exact W.widen (Nat.le_add_right _ _) (Nat.le_add_right _ _) (kk _ _ _ ⟨I2, hR⟩)
theorem k_case4 {p : Program} {l : Launch} {e : Env} {s : State} {m : MethodId} {below : List Frame} {meth : Method} {c : Code} {Q : State → Prop} {b L : Nat} {xs : Nat → Int32} {D : va_G} {dA : Nat → ClassId} {a1 a2 i cells slots : Nat} {ls : Array Slot} {w : cWld} {H : Heap} {locs : List Loc} (C : k_Cx p s m c b L xs D dA) (I : k_In s D dA a1 a2 w H locs ∧ k_R a1 a2 w) (hl : lv_has ls 4 (k_lv b a1 a2 i)) (hi : i + 7 ≤ L) (hcb : cells + 26 ≤ 600000) (hsb : slots + 1584 ≤ 7302250)
    (kk : ∀ (w : cWld) (H : Heap) (locs : List Loc), k_In s D dA a1 a2 w H locs ∧ k_R a1 a2 w → W p l e room_1 s m #[Value.ref b] below meth c H locs (cells + 26) (slots + 1584) Q (F0 m 1989 ls [])) : W p l e room_1 s m #[Value.ref b] below meth c H locs cells slots Q (F0 m 342 ls []) := by
  have hc0 : cells ≤ 600000 := by omega
  have hs0 : slots ≤ 7302250 := by omega
  have hc1 := hcb
  have hs1 := hsb
  obtain ⟨I, hR⟩ := I
  refine lv_aload_n C.1 C.2.1 k_L342 rfl (lv_at hl 1 rfl) ?_
  refine k_arg C I hl (k := 1) (by omega) k_L343 k_L344 k_L345 (by decide) k_L346 k_L347 ?_
  refine k_arg C I hl (k := 2) (by omega) k_L348 k_L349 k_L350 (by decide) k_L351 k_L352 ?_
  refine k_arg C I hl (k := 3) (by omega) k_L353 k_L354 k_L355 (by decide) k_L356 k_L357 ?_
  refine lv_i2l C.1 C.2.1 k_L358 rfl ?_
  refine lv_bipush (v := 32) C.1 C.2.1 k_L359 (by decide) ?_
  refine lv_lshl C.1 C.2.1 k_L361 rfl ?_
  refine k_arg C I hl (k := 4) (by omega) k_L362 k_L363 k_L364 (by decide) k_L365 k_L366 ?_
  refine lv_i2l C.1 C.2.1 k_L367 rfl ?_
  refine lv_ldc2 C.1 C.2.1 C.2.2.2.1 (C.2.2.2.2.1 _ (k_in 10 162 rfl rfl)) k_L368 ?_
  refine lv_land C.1 C.2.1 k_L371 ?_
  refine lv_lor C.1 C.2.1 k_L372 ?_
  refine lv_topl (fun y1 _ => ?_)
  refine k_pub C I (a := 125) (idx := 34) (M := k_M125) (ct := k_c125_0) rfl k_pm125_0 rfl (k_in 3 188 rfl rfl) (by decide +kernel) (x := a1) (As := [.int (xs (i + 1)), .int (xs (i + 2)), .long y1]) (rest := []) [(a1 : Int), ((xs (i + 1))).toInt, ((xs (i + 2))).toInt, (y1).toInt] (k_preC 0 rfl (by decide +kernel) ⟨k_aR I.2.2.2.2.1, k_aI _, k_aI _, k_aJ _, trivial⟩ trivial) (Nat.le_of_ble_eq_true rfl) k_L373 hc0 hs0 hl.1 (fun rv1 rs1 w1 H1 lo1 hv1 hp1 I1 => ?_)
  obtain ⟨r1, rfl, rfl, -, -⟩ := hv1
  have hR := k_RK hp1.1 (by decide +kernel) (by decide +kernel) hR
  refine lv_pop C.1 C.2.1 k_L376 rfl ?_
  refine lv_aload_n C.1 C.2.1 k_L377 rfl (lv_at hl 2 rfl) ?_
  refine k_arg C I1 hl (k := 1) (by omega) k_L378 k_L379 k_L380 (by decide) k_L381 k_L382 ?_
  refine k_arg C I1 hl (k := 2) (by omega) k_L383 k_L384 k_L385 (by decide) k_L386 k_L387 ?_
  refine k_arg C I1 hl (k := 3) (by omega) k_L388 k_L389 k_L390 (by decide) k_L391 k_L392 ?_
  refine lv_i2l C.1 C.2.1 k_L393 rfl ?_
  refine lv_bipush (v := 32) C.1 C.2.1 k_L394 (by decide) ?_
  refine lv_lshl C.1 C.2.1 k_L396 rfl ?_
  refine k_arg C I1 hl (k := 4) (by omega) k_L397 k_L398 k_L399 (by decide) k_L400 k_L401 ?_
  refine lv_i2l C.1 C.2.1 k_L402 rfl ?_
  refine lv_ldc2 C.1 C.2.1 C.2.2.2.1 (C.2.2.2.2.1 _ (k_in 10 162 rfl rfl)) k_L403 ?_
  refine lv_land C.1 C.2.1 k_L406 ?_
  refine lv_lor C.1 C.2.1 k_L407 ?_
  refine lv_topl (fun y2 _ => ?_)
  refine k_pub C I1 (a := 213) (idx := 38) (M := k_M213) (ct := k_c213_0) rfl k_pm213_0 rfl (k_in 8 27 rfl rfl) (by decide +kernel) (x := a2) (As := [.int (xs (i + 1)), .int (xs (i + 2)), .long y2]) (rest := []) [(a2 : Int), ((xs (i + 1))).toInt, ((xs (i + 2))).toInt, (y2).toInt] (k_preC 0 rfl (by decide +kernel) ⟨k_aR I1.2.2.2.2.2.1, k_aI _, k_aI _, k_aJ _, trivial⟩ trivial) (Nat.le_of_ble_eq_true rfl) k_L408 hc0 hs0 hl.1 (fun rv2 rs2 w2 H2 lo2 hv2 hp2 I2 => ?_)
  obtain ⟨r2, rfl, rfl, -, -⟩ := hv2
  have hR := k_RK hp2.1 (by decide +kernel) (by decide +kernel) hR
  refine lv_pop C.1 C.2.1 k_L411 rfl ?_
  refine lv_goto C.1 C.2.1 k_L412 (tgt := 1989) (by decide) ?_
  exact W.widen (Nat.le_add_right _ _) (Nat.le_add_right _ _) (kk _ _ _ ⟨I2, hR⟩)
theorem k_case5 {p : Program} {l : Launch} {e : Env} {s : State} {m : MethodId} {below : List Frame} {meth : Method} {c : Code} {Q : State → Prop} {b L : Nat} {xs : Nat → Int32} {D : va_G} {dA : Nat → ClassId} {a1 a2 i cells slots : Nat} {ls : Array Slot} {w : cWld} {H : Heap} {locs : List Loc} (C : k_Cx p s m c b L xs D dA) (I : k_In s D dA a1 a2 w H locs ∧ k_R a1 a2 w) (hl : lv_has ls 4 (k_lv b a1 a2 i)) (hi : i + 7 ≤ L) (hcb : cells + 26 ≤ 600000) (hsb : slots + 1584 ≤ 7302250)
    (kk : ∀ (w : cWld) (H : Heap) (locs : List Loc), k_In s D dA a1 a2 w H locs ∧ k_R a1 a2 w → W p l e room_1 s m #[Value.ref b] below meth c H locs (cells + 26) (slots + 1584) Q (F0 m 1989 ls [])) : W p l e room_1 s m #[Value.ref b] below meth c H locs cells slots Q (F0 m 415 ls []) := by
  have hc0 : cells ≤ 600000 := by omega
  have hs0 : slots ≤ 7302250 := by omega
  have hc1 := hcb
  have hs1 := hsb
  obtain ⟨I, hR⟩ := I
  refine lv_aload_n C.1 C.2.1 k_L415 rfl (lv_at hl 1 rfl) ?_
  refine k_arg C I hl (k := 1) (by omega) k_L416 k_L417 k_L418 (by decide) k_L419 k_L420 ?_
  refine k_arg C I hl (k := 2) (by omega) k_L421 k_L422 k_L423 (by decide) k_L424 k_L425 ?_
  refine k_pub C I (a := 127) (idx := 39) (M := k_M127) (ct := k_c127_0) rfl k_pm127_0 rfl (k_in 3 199 rfl rfl) (by decide +kernel) (x := a1) (As := [.int (xs (i + 1)), .int (xs (i + 2))]) (rest := []) [(a1 : Int), ((xs (i + 1))).toInt, ((xs (i + 2))).toInt] (k_preC 0 rfl (by decide +kernel) ⟨k_aR I.2.2.2.2.1, k_aI _, k_aI _, trivial⟩ trivial) (Nat.le_of_ble_eq_true rfl) k_L426 hc0 hs0 hl.1 (fun rv1 rs1 w1 H1 lo1 hv1 hp1 I1 => ?_)
  obtain ⟨r1, rfl, rfl⟩ := hv1
  have hR := k_RK hp1.1 (by decide +kernel) (by decide +kernel) hR
  refine lv_pop2_2 C.1 C.2.1 k_L429 rfl ?_
  refine lv_aload_n C.1 C.2.1 k_L430 rfl (lv_at hl 2 rfl) ?_
  refine k_arg C I1 hl (k := 1) (by omega) k_L431 k_L432 k_L433 (by decide) k_L434 k_L435 ?_
  refine k_arg C I1 hl (k := 2) (by omega) k_L436 k_L437 k_L438 (by decide) k_L439 k_L440 ?_
  refine k_pub C I1 (a := 214) (idx := 43) (M := k_M214) (ct := k_c214_0) rfl k_pm214_0 rfl (k_in 8 42 rfl rfl) (by decide +kernel) (x := a2) (As := [.int (xs (i + 1)), .int (xs (i + 2))]) (rest := []) [(a2 : Int), ((xs (i + 1))).toInt, ((xs (i + 2))).toInt] (k_preC 0 rfl (by decide +kernel) ⟨k_aR I1.2.2.2.2.2.1, k_aI _, k_aI _, trivial⟩ trivial) (Nat.le_of_ble_eq_true rfl) k_L441 hc0 hs0 hl.1 (fun rv2 rs2 w2 H2 lo2 hv2 hp2 I2 => ?_)
  obtain ⟨r2, rfl, rfl⟩ := hv2
  have hR := k_RK hp2.1 (by decide +kernel) (by decide +kernel) hR
  refine lv_pop2_2 C.1 C.2.1 k_L444 rfl ?_
  refine lv_goto C.1 C.2.1 k_L445 (tgt := 1989) (by decide) ?_
  exact W.widen (Nat.le_add_right _ _) (Nat.le_add_right _ _) (kk _ _ _ ⟨I2, hR⟩)
theorem k_case6 {p : Program} {l : Launch} {e : Env} {s : State} {m : MethodId} {below : List Frame} {meth : Method} {c : Code} {Q : State → Prop} {b L : Nat} {xs : Nat → Int32} {D : va_G} {dA : Nat → ClassId} {a1 a2 i cells slots : Nat} {ls : Array Slot} {w : cWld} {H : Heap} {locs : List Loc} (C : k_Cx p s m c b L xs D dA) (I : k_In s D dA a1 a2 w H locs ∧ k_R a1 a2 w) (hl : lv_has ls 4 (k_lv b a1 a2 i)) (hi : i + 7 ≤ L) (hcb : cells + 26 ≤ 600000) (hsb : slots + 1584 ≤ 7302250)
    (kk : ∀ (w : cWld) (H : Heap) (locs : List Loc), k_In s D dA a1 a2 w H locs ∧ k_R a1 a2 w → W p l e room_1 s m #[Value.ref b] below meth c H locs (cells + 26) (slots + 1584) Q (F0 m 1989 ls [])) : W p l e room_1 s m #[Value.ref b] below meth c H locs cells slots Q (F0 m 448 ls []) := by
  have hc0 : cells ≤ 600000 := by omega
  have hs0 : slots ≤ 7302250 := by omega
  have hc1 := hcb
  have hs1 := hsb
  obtain ⟨I, hR⟩ := I
  refine lv_aload_n C.1 C.2.1 k_L448 rfl (lv_at hl 1 rfl) ?_
  refine k_arg C I hl (k := 1) (by omega) k_L449 k_L450 k_L451 (by decide) k_L452 k_L453 ?_
  refine k_arg C I hl (k := 2) (by omega) k_L454 k_L455 k_L456 (by decide) k_L457 k_L458 ?_
  refine k_arg C I hl (k := 3) (by omega) k_L459 k_L460 k_L461 (by decide) k_L462 k_L463 ?_
  refine k_arg C I hl (k := 4) (by omega) k_L464 k_L465 k_L466 (by decide) k_L467 k_L468 ?_
  refine k_arg C I hl (k := 5) (by omega) k_L469 k_L470 k_L471 (by decide) k_L472 k_L473 ?_
  refine k_pub C I (a := 128) (idx := 44) (M := k_M128) (ct := k_c128_0) rfl k_pm128_0 rfl (k_in 3 204 rfl rfl) (by decide +kernel) (x := a1) (As := [.int (xs (i + 1)), .int (xs (i + 2)), .int (xs (i + 3)), .int (xs (i + 4)), .int (xs (i + 5))]) (rest := []) [(a1 : Int), ((xs (i + 1))).toInt, ((xs (i + 2))).toInt, ((xs (i + 3))).toInt, ((xs (i + 4))).toInt, ((xs (i + 5))).toInt] (k_preC 0 rfl (by decide +kernel) ⟨k_aR I.2.2.2.2.1, k_aI _, k_aI _, k_aI _, k_aI _, k_aI _, trivial⟩ trivial) (Nat.le_of_ble_eq_true rfl) k_L474 hc0 hs0 hl.1 (fun rv1 rs1 w1 H1 lo1 hv1 hp1 I1 => ?_)
  obtain ⟨r1, rfl, rfl, -, -⟩ := hv1
  have hR := k_RK hp1.1 (by decide +kernel) (by decide +kernel) hR
  refine lv_pop C.1 C.2.1 k_L477 rfl ?_
  refine lv_aload_n C.1 C.2.1 k_L478 rfl (lv_at hl 2 rfl) ?_
  refine k_arg C I1 hl (k := 1) (by omega) k_L479 k_L480 k_L481 (by decide) k_L482 k_L483 ?_
  refine k_arg C I1 hl (k := 2) (by omega) k_L484 k_L485 k_L486 (by decide) k_L487 k_L488 ?_
  refine k_arg C I1 hl (k := 3) (by omega) k_L489 k_L490 k_L491 (by decide) k_L492 k_L493 ?_
  refine k_arg C I1 hl (k := 4) (by omega) k_L494 k_L495 k_L496 (by decide) k_L497 k_L498 ?_
  refine k_arg C I1 hl (k := 5) (by omega) k_L499 k_L500 k_L501 (by decide) k_L502 k_L503 ?_
  refine k_pub C I1 (a := 215) (idx := 48) (M := k_M215) (ct := k_c215_0) rfl k_pm215_0 rfl (k_in 8 47 rfl rfl) (by decide +kernel) (x := a2) (As := [.int (xs (i + 1)), .int (xs (i + 2)), .int (xs (i + 3)), .int (xs (i + 4)), .int (xs (i + 5))]) (rest := []) [(a2 : Int), ((xs (i + 1))).toInt, ((xs (i + 2))).toInt, ((xs (i + 3))).toInt, ((xs (i + 4))).toInt, ((xs (i + 5))).toInt] (k_preC 0 rfl (by decide +kernel) ⟨k_aR I1.2.2.2.2.2.1, k_aI _, k_aI _, k_aI _, k_aI _, k_aI _, trivial⟩ trivial) (Nat.le_of_ble_eq_true rfl) k_L504 hc0 hs0 hl.1 (fun rv2 rs2 w2 H2 lo2 hv2 hp2 I2 => ?_)
  obtain ⟨r2, rfl, rfl, -, -⟩ := hv2
  have hR := k_RK hp2.1 (by decide +kernel) (by decide +kernel) hR
  refine lv_pop C.1 C.2.1 k_L507 rfl ?_
  refine lv_goto C.1 C.2.1 k_L508 (tgt := 1989) (by decide) ?_
  exact W.widen (Nat.le_add_right _ _) (Nat.le_add_right _ _) (kk _ _ _ ⟨I2, hR⟩)
theorem k_case7 {p : Program} {l : Launch} {e : Env} {s : State} {m : MethodId} {below : List Frame} {meth : Method} {c : Code} {Q : State → Prop} {b L : Nat} {xs : Nat → Int32} {D : va_G} {dA : Nat → ClassId} {a1 a2 i cells slots : Nat} {ls : Array Slot} {w : cWld} {H : Heap} {locs : List Loc} (C : k_Cx p s m c b L xs D dA) (I : k_In s D dA a1 a2 w H locs ∧ k_R a1 a2 w) (hl : lv_has ls 4 (k_lv b a1 a2 i)) (hi : i + 7 ≤ L) (hcb : cells + 26 ≤ 600000) (hsb : slots + 1584 ≤ 7302250)
    (kk : ∀ (w : cWld) (H : Heap) (locs : List Loc), k_In s D dA a1 a2 w H locs ∧ k_R a1 a2 w → W p l e room_1 s m #[Value.ref b] below meth c H locs (cells + 26) (slots + 1584) Q (F0 m 1989 ls [])) : W p l e room_1 s m #[Value.ref b] below meth c H locs cells slots Q (F0 m 511 ls []) := by
  have hc0 : cells ≤ 600000 := by omega
  have hs0 : slots ≤ 7302250 := by omega
  have hc1 := hcb
  have hs1 := hsb
  obtain ⟨I, n, tp, tm, rd, ke, f, hn6, hf, hTC, hTM, hY⟩ := I
  refine lv_aload_n C.1 C.2.1 k_L511 rfl (lv_at hl 1 rfl) ?_
  refine k_arg C I hl (k := 1) (by omega) k_L512 k_L513 k_L514 (by decide) k_L515 k_L516 ?_
  refine k_arg C I hl (k := 2) (by omega) k_L517 k_L518 k_L519 (by decide) k_L520 k_L521 ?_
  refine k_arg C I hl (k := 3) (by omega) k_L522 k_L523 k_L524 (by decide) k_L525 k_L526 ?_
  refine k_arg C I hl (k := 4) (by omega) k_L527 k_L528 k_L529 (by decide) k_L530 k_L531 ?_
  refine k_arg C I hl (k := 5) (by omega) k_L532 k_L533 k_L534 (by decide) k_L535 k_L536 ?_
  refine t_pub2 C I (a := 129) (idx := 49) (M := k_M129) (ct := k_c129_0) rfl k_pm129_0 rfl (k_in 3 211 rfl rfl) (by decide +kernel) (x := a1) (As := [.int (xs (i + 1)), .int (xs (i + 2)), .int (xs (i + 3)), .int (xs (i + 4)), .int (xs (i + 5))]) (rest := []) [(a1 : Int), ((xs (i + 1))).toInt, ((xs (i + 2))).toInt, ((xs (i + 3))).toInt, ((xs (i + 4))).toInt, ((xs (i + 5))).toInt, (n : Int)] (k_preC 0 rfl (by decide +kernel) ⟨k_aR I.2.2.2.2.1, k_aI _, k_aI _, k_aI _, k_aI _, k_aI _, trivial⟩ ⟨k_fnC (b := 0) hTC.1 rfl rfl, trivial⟩) (Nat.le_of_ble_eq_true rfl) k_L537 hc0 hs0 hl.1 (fun rv1 rs1 w1 H1 lo1 hv1 hp1 I1 hj1 => ?_)
  obtain ⟨r1, rfl, rfl⟩ := hv1
  obtain ⟨n1, hn1, hq1⟩ := k_feedC hp1 I1.2.2.2.2.1
  have hTMb := k_TpK hp1.1 (by decide +kernel) (by decide) (by decide) (by decide +kernel) hTM
  have hYb := k_KyK hp1.1 (by decide +kernel) (by decide +kernel) hY
  have hi1 := k_inK hp1.1 (by decide +kernel) (by decide) hTC.2.2.1
  have htp := k_fnK hp1.1 (by decide +kernel) (by decide) (by decide +kernel) hTC.2.1
  refine lv_pop C.1 C.2.1 k_L540 rfl ?_
  refine lv_aload_n C.1 C.2.1 k_L541 rfl (lv_at hl 2 rfl) ?_
  refine k_arg C I1 hl (k := 1) (by omega) k_L542 k_L543 k_L544 (by decide) k_L545 k_L546 ?_
  refine k_arg C I1 hl (k := 2) (by omega) k_L547 k_L548 k_L549 (by decide) k_L550 k_L551 ?_
  refine k_arg C I1 hl (k := 3) (by omega) k_L552 k_L553 k_L554 (by decide) k_L555 k_L556 ?_
  refine k_arg C I1 hl (k := 4) (by omega) k_L557 k_L558 k_L559 (by decide) k_L560 k_L561 ?_
  refine k_arg C I1 hl (k := 5) (by omega) k_L562 k_L563 k_L564 (by decide) k_L565 k_L566 ?_
  refine t_pub2 C I1 (a := 236) (idx := 53) (M := k_M236) (ct := k_c236_0) rfl k_pm236_0 rfl (k_in 8 51 rfl rfl) (by decide +kernel) (x := a2) (As := [.int (xs (i + 1)), .int (xs (i + 2)), .int (xs (i + 3)), .int (xs (i + 4)), .int (xs (i + 5))]) (rest := []) [(a2 : Int), ((xs (i + 1))).toInt, ((xs (i + 2))).toInt, ((xs (i + 3))).toInt, ((xs (i + 4))).toInt, ((xs (i + 5))).toInt, (n : Int)] (k_preC 0 rfl (by decide +kernel) ⟨k_aR I1.2.2.2.2.2.1, k_aI _, k_aI _, k_aI _, k_aI _, k_aI _, trivial⟩ ⟨k_fnC (b := 0) hTMb.1 rfl rfl, trivial⟩) (Nat.le_of_ble_eq_true rfl) k_L567 hc0 hs0 hl.1 (fun rv2 rs2 w2 H2 lo2 hv2 hp2 I2 hj2 => ?_)
  obtain ⟨r2, rfl, rfl⟩ := hv2
  obtain ⟨n2, hn2, hq2⟩ := k_feedM hp2 I2.2.2.2.2.2.1
  have hn1b := k_fnK hp2.1 (by decide +kernel) (by decide) (by decide +kernel) hn1
  have hYc := k_KyK hp2.1 (by decide +kernel) (by decide +kernel) hYb
  have hi1b := k_inK hp2.1 (by decide +kernel) (by decide) hi1
  have htpb := k_fnK hp2.1 (by decide +kernel) (by decide) (by decide +kernel) htp
  have hi2 := k_inK hp2.1 (by decide +kernel) (by decide) hTMb.2.2.1
  have htm := k_fnK hp2.1 (by decide +kernel) (by decide) (by decide +kernel) hTMb.2.1
  have hRn : k_R a1 a2 w2 := by
    by_cases h5 : n ≤ 580
    · have hb1 := k_fedC I I.2.2.2.2.1 hTC hf h5 I1 hi1 (t_exOf (by rfl) (by rfl) hj1)
      have hb2 := k_fedM I1 I1.2.2.2.2.2.1 hTMb hf h5 I2 hi2 (t_exOf (by rfl) (by rfl) hj2)
      have e1 : n1 = ((n + 20 : Nat) : Int) := by omega
      have e2 : n2 = ((n + 20 : Nat) : Int) := by omega
      rw [e1] at hn1b
      rw [e2] at hn2
      exact ⟨n + 20, tp, tm, rd, ke, t_nf n f (xs (i + 1)) (xs (i + 2)) (xs (i + 3)) (xs (i + 4)) (xs (i + 5)), by omega, t_nfB hf, ⟨hn1b, htpb, hi1b, fun p hp => k_fnK hp2.1 (by decide +kernel) (by decide) (k_none_ok (by decide +kernel) _ _) (hb1 p hp)⟩, ⟨hn2, htm, hi2, hb2⟩, hYc⟩
    · have hb1 := k_fdhC I I.2.2.2.2.1 hTC (by omega) I1 hi1 (t_exOf (by rfl) (by rfl) hj1)
      have hb2 := k_fdhM I1 I1.2.2.2.2.2.1 hTMb (by omega) I2 hi2 (t_exOf (by rfl) (by rfl) hj2)
      have e1 : n1 = (n : Int) := by omega
      have e2 : n2 = (n : Int) := by omega
      rw [e1] at hn1b
      rw [e2] at hn2
      exact ⟨n, tp, tm, rd, ke, f, hn6, hf, ⟨hn1b, htpb, hi1b, fun p hp => k_fnK hp2.1 (by decide +kernel) (by decide) (k_none_ok (by decide +kernel) _ _) (hb1 p hp)⟩, ⟨hn2, htm, hi2, hb2⟩, hYc⟩
  refine lv_pop C.1 C.2.1 k_L570 rfl ?_
  refine lv_goto C.1 C.2.1 k_L571 (tgt := 1989) (by decide) ?_
  exact W.widen (Nat.le_add_right _ _) (Nat.le_add_right _ _) (kk _ _ _ ⟨I2, hRn⟩)
theorem k_case8 {p : Program} {l : Launch} {e : Env} {s : State} {m : MethodId} {below : List Frame} {meth : Method} {c : Code} {Q : State → Prop} {b L : Nat} {xs : Nat → Int32} {D : va_G} {dA : Nat → ClassId} {a1 a2 i cells slots : Nat} {ls : Array Slot} {w : cWld} {H : Heap} {locs : List Loc} (C : k_Cx p s m c b L xs D dA) (I : k_In s D dA a1 a2 w H locs ∧ k_R a1 a2 w) (hl : lv_has ls 4 (k_lv b a1 a2 i)) (hi : i + 7 ≤ L) (hcb : cells + 26 ≤ 600000) (hsb : slots + 1584 ≤ 7302250)
    (kk : ∀ (w : cWld) (H : Heap) (locs : List Loc), k_In s D dA a1 a2 w H locs ∧ k_R a1 a2 w → W p l e room_1 s m #[Value.ref b] below meth c H locs (cells + 26) (slots + 1584) Q (F0 m 1989 ls [])) : W p l e room_1 s m #[Value.ref b] below meth c H locs cells slots Q (F0 m 574 ls []) := by
  have hc0 : cells ≤ 600000 := by omega
  have hs0 : slots ≤ 7302250 := by omega
  have hc1 := hcb
  have hs1 := hsb
  obtain ⟨I, n, tp, tm, rd, ke, f, hn6, hf, hTC, hTM, hY⟩ := I
  refine lv_aload_n C.1 C.2.1 k_L574 rfl (lv_at hl 1 rfl) ?_
  refine k_arg C I hl (k := 1) (by omega) k_L575 k_L576 k_L577 (by decide) k_L578 k_L579 ?_
  refine t_pub2 C I (a := 132) (idx := 54) (M := k_M132) (ct := k_c132_0) rfl k_pm132_0 rfl (k_in 3 219 rfl rfl) (by decide +kernel) (x := a1) (As := [.int (xs (i + 1))]) (rest := []) [(a1 : Int), ((xs (i + 1))).toInt, (n : Int)] (k_preC 0 rfl (by decide +kernel) ⟨k_aR I.2.2.2.2.1, k_aI _, trivial⟩ ⟨k_fnC (b := 0) hTC.1 rfl rfl, trivial⟩) (Nat.le_of_ble_eq_true rfl) k_L580 hc0 hs0 hl.1 (fun rv1 rs1 w1 H1 lo1 hv1 hp1 I1 hj1 => ?_)
  obtain ⟨r1, rfl, rfl⟩ := hv1
  obtain ⟨n1, hn1, hq1⟩ := k_landC hp1 I1.2.2.2.2.1
  have hTMb := k_TpK hp1.1 (by decide +kernel) (by decide) (by decide) (by decide +kernel) hTM
  have hYb := k_KyK hp1.1 (by decide +kernel) (by decide +kernel) hY
  have hTCb := k_TbK hp1.1 (by decide +kernel) (by decide) (by decide) (by decide +kernel) (k_Tb_of hTC)
  refine lv_aload_n C.1 C.2.1 k_L583 rfl (lv_at hl 2 rfl) ?_
  refine k_arg C I1 hl (k := 1) (by omega) k_L584 k_L585 k_L586 (by decide) k_L587 k_L588 ?_
  refine t_pub2 C I1 (a := 250) (idx := 58) (M := k_M250) (ct := k_c250_0) rfl k_pm250_0 rfl (k_in 8 59 rfl rfl) (by decide +kernel) (x := a2) (As := [.int (xs (i + 1))]) (rest := [.int r1]) [(a2 : Int), ((xs (i + 1))).toInt, 0, (n : Int)] (k_preC 3 rfl (by decide +kernel) ⟨k_aR I1.2.2.2.2.2.1, k_aI _, trivial⟩ ⟨k_ghc I1.2.2.2.2.2.2 rfl, k_fnC (b := 0) hTMb.1 rfl rfl, trivial⟩) (Nat.le_of_ble_eq_true rfl) k_L589 hc0 hs0 hl.1 (fun rv2 rs2 w2 H2 lo2 hv2 hp2 I2 hj2 => ?_)
  obtain ⟨r2, rfl, rfl⟩ := hv2
  obtain ⟨n2, hn2, hq2⟩ := k_landM hp2 I2.2.2.2.2.2.1
  have hn1b := k_fnK hp2.1 (by decide +kernel) (by decide) (by decide +kernel) hn1
  have hYc := k_KyK hp2.1 (by decide +kernel) (by decide +kernel) hYb
  have hTCc := k_TbK hp2.1 (by decide +kernel) (by decide) (by decide) (by decide +kernel) hTCb
  have hTMc := k_TbK hp2.1 (by decide +kernel) (by decide) (by decide) (by decide +kernel) (k_Tb_of hTMb)
  obtain ⟨hzz, n', hn', hle⟩ : n1 = n2 ∧ ∃ n' : Nat, n1 = (n' : Int) ∧ n' ≤ n := ⟨by omega, n1.toNat, by omega, by omega⟩
  rw [hn'] at hn1b
  rw [← hzz, hn'] at hn2
  have hRn : k_R a1 a2 w2 := ⟨n', tp, tm, rd, ke, f, by omega, hf, k_Tp_of hTCc hle hn1b, k_Tp_of hTMc hle hn2, hYc⟩
  have hr : r1 = r2 := by
    apply Int32.toInt_inj.mp
    rcases (show (xs (i + 1)).toInt < 0 ∨ (n : Int) < (xs (i + 1)).toInt ∨ (0 ≤ (xs (i + 1)).toInt ∧ (xs (i + 1)).toInt ≤ (n : Int)) by omega) with h | h | h
    · rw [k_lndCL I I.2.2.2.2.1 hTC h (t_exOf (by rfl) (by rfl) hj1), k_lndML I1 I1.2.2.2.2.2.1 hTMb h (t_exOf (by rfl) (by rfl) hj2)]
    · rw [k_lndCH I I.2.2.2.2.1 hTC h (t_exOf (by rfl) (by rfl) hj1), k_lndMH I1 I1.2.2.2.2.2.1 hTMb h (t_exOf (by rfl) (by rfl) hj2)]
    · rw [k_lndC (n1 := (xs (i + 1)).toInt.toNat) I I.2.2.2.2.1 hTC hY hf hn6 (by omega) (by omega) (t_exOf (by rfl) (by rfl) hj1), k_lndM (n1 := (xs (i + 1)).toInt.toNat) I1 I1.2.2.2.2.2.1 hTMb hf hn6 (by omega) (by omega) (t_exOf (by rfl) (by rfl) hj2)]
  refine lv_icmp_eq C.1 C.2.1 k_L592 (tgt := 1989) (by decide) (fun _ => ?_) (fun h => absurd hr h)
  exact W.widen (Nat.le_add_right _ _) (Nat.le_add_right _ _) (kk _ _ _ ⟨I2, hRn⟩)
theorem k_case9 {p : Program} {l : Launch} {e : Env} {s : State} {m : MethodId} {below : List Frame} {meth : Method} {c : Code} {Q : State → Prop} {b L : Nat} {xs : Nat → Int32} {D : va_G} {dA : Nat → ClassId} {a1 a2 i cells slots : Nat} {ls : Array Slot} {w : cWld} {H : Heap} {locs : List Loc} (C : k_Cx p s m c b L xs D dA) (I : k_In s D dA a1 a2 w H locs ∧ k_R a1 a2 w) (hl : lv_has ls 4 (k_lv b a1 a2 i)) (hi : i + 7 ≤ L) (hcb : cells + 26 ≤ 600000) (hsb : slots + 1584 ≤ 7302250)
    (kk : ∀ (w : cWld) (H : Heap) (locs : List Loc), k_In s D dA a1 a2 w H locs ∧ k_R a1 a2 w → W p l e room_1 s m #[Value.ref b] below meth c H locs (cells + 26) (slots + 1584) Q (F0 m 1989 ls [])) : W p l e room_1 s m #[Value.ref b] below meth c H locs cells slots Q (F0 m 597 ls []) := by
  have hc0 : cells ≤ 600000 := by omega
  have hs0 : slots ≤ 7302250 := by omega
  have hc1 := hcb
  have hs1 := hsb
  obtain ⟨I, hR⟩ := I
  refine lv_aload_n C.1 C.2.1 k_L597 rfl (lv_at hl 1 rfl) ?_
  refine k_arg C I hl (k := 1) (by omega) k_L598 k_L599 k_L600 (by decide) k_L601 k_L602 ?_
  refine k_pub C I (a := 133) (idx := 59) (M := k_M133) (ct := k_c133_0) rfl k_pm133_0 rfl (k_in 4 128 rfl rfl) (by decide +kernel) (x := a1) (As := [.int (xs (i + 1))]) (rest := []) [(a1 : Int), ((xs (i + 1))).toInt] (k_preC 0 rfl (by decide +kernel) ⟨k_aR I.2.2.2.2.1, k_aI _, trivial⟩ trivial) (Nat.le_of_ble_eq_true rfl) k_L603 hc0 hs0 hl.1 (fun rv1 rs1 w1 H1 lo1 hv1 hp1 I1 => ?_)
  obtain ⟨r1, rfl, rfl⟩ := hv1
  have hR := k_RK hp1.1 (by decide +kernel) (by decide +kernel) hR
  refine lv_pop C.1 C.2.1 k_L606 rfl ?_
  refine lv_aload_n C.1 C.2.1 k_L607 rfl (lv_at hl 2 rfl) ?_
  refine k_arg C I1 hl (k := 1) (by omega) k_L608 k_L609 k_L610 (by decide) k_L611 k_L612 ?_
  refine k_pub C I1 (a := 251) (idx := 62) (M := k_M251) (ct := k_c251_0) rfl k_pm251_0 rfl (k_in 8 180 rfl rfl) (by decide +kernel) (x := a2) (As := [.int (xs (i + 1))]) (rest := []) [(a2 : Int), ((xs (i + 1))).toInt] (k_preC 0 rfl (by decide +kernel) ⟨k_aR I1.2.2.2.2.2.1, k_aI _, trivial⟩ trivial) (Nat.le_of_ble_eq_true rfl) k_L613 hc0 hs0 hl.1 (fun rv2 rs2 w2 H2 lo2 hv2 hp2 I2 => ?_)
  obtain ⟨r2, rfl, rfl⟩ := hv2
  have hR := k_RK hp2.1 (by decide +kernel) (by decide +kernel) hR
  refine lv_pop C.1 C.2.1 k_L616 rfl ?_
  refine lv_goto C.1 C.2.1 k_L617 (tgt := 1989) (by decide) ?_
  exact W.widen (Nat.le_add_right _ _) (Nat.le_add_right _ _) (kk _ _ _ ⟨I2, hR⟩)
theorem k_case10 {p : Program} {l : Launch} {e : Env} {s : State} {m : MethodId} {below : List Frame} {meth : Method} {c : Code} {Q : State → Prop} {b L : Nat} {xs : Nat → Int32} {D : va_G} {dA : Nat → ClassId} {a1 a2 i cells slots : Nat} {ls : Array Slot} {w : cWld} {H : Heap} {locs : List Loc} (C : k_Cx p s m c b L xs D dA) (I : k_In s D dA a1 a2 w H locs ∧ k_R a1 a2 w) (hl : lv_has ls 4 (k_lv b a1 a2 i)) (hi : i + 7 ≤ L) (hcb : cells + 26 ≤ 600000) (hsb : slots + 1584 ≤ 7302250)
    (kk : ∀ (w : cWld) (H : Heap) (locs : List Loc), k_In s D dA a1 a2 w H locs ∧ k_R a1 a2 w → W p l e room_1 s m #[Value.ref b] below meth c H locs (cells + 26) (slots + 1584) Q (F0 m 1989 ls [])) : W p l e room_1 s m #[Value.ref b] below meth c H locs cells slots Q (F0 m 620 ls []) := by
  have hc0 : cells ≤ 600000 := by omega
  have hs0 : slots ≤ 7302250 := by omega
  have hc1 := hcb
  have hs1 := hsb
  obtain ⟨I, hR⟩ := I
  refine lv_aload_n C.1 C.2.1 k_L620 rfl (lv_at hl 1 rfl) ?_
  refine k_arg C I hl (k := 1) (by omega) k_L621 k_L622 k_L623 (by decide) k_L624 k_L625 ?_
  refine k_pub C I (a := 134) (idx := 63) (M := k_M134) (ct := k_c134_0) rfl k_pm134_0 rfl (k_in 4 132 rfl rfl) (by decide +kernel) (x := a1) (As := [.int (xs (i + 1))]) (rest := []) [(a1 : Int), ((xs (i + 1))).toInt] (k_preC 0 rfl (by decide +kernel) ⟨k_aR I.2.2.2.2.1, k_aI _, trivial⟩ trivial) (Nat.le_of_ble_eq_true rfl) k_L626 hc0 hs0 hl.1 (fun rv1 rs1 w1 H1 lo1 hv1 hp1 I1 => ?_)
  obtain ⟨r1, rfl, rfl⟩ := hv1
  have hR := k_RK hp1.1 (by decide +kernel) (by decide +kernel) hR
  refine lv_pop C.1 C.2.1 k_L629 rfl ?_
  refine lv_aload_n C.1 C.2.1 k_L630 rfl (lv_at hl 2 rfl) ?_
  refine k_arg C I1 hl (k := 1) (by omega) k_L631 k_L632 k_L633 (by decide) k_L634 k_L635 ?_
  refine k_pub C I1 (a := 257) (idx := 66) (M := k_M257) (ct := k_c257_0) rfl k_pm257_0 rfl (k_in 8 184 rfl rfl) (by decide +kernel) (x := a2) (As := [.int (xs (i + 1))]) (rest := []) [(a2 : Int), ((xs (i + 1))).toInt] (k_preC 0 rfl (by decide +kernel) ⟨k_aR I1.2.2.2.2.2.1, k_aI _, trivial⟩ trivial) (Nat.le_of_ble_eq_true rfl) k_L636 hc0 hs0 hl.1 (fun rv2 rs2 w2 H2 lo2 hv2 hp2 I2 => ?_)
  obtain ⟨r2, rfl, rfl⟩ := hv2
  have hR := k_RK hp2.1 (by decide +kernel) (by decide +kernel) hR
  refine lv_pop C.1 C.2.1 k_L639 rfl ?_
  refine lv_goto C.1 C.2.1 k_L640 (tgt := 1989) (by decide) ?_
  exact W.widen (Nat.le_add_right _ _) (Nat.le_add_right _ _) (kk _ _ _ ⟨I2, hR⟩)
theorem k_case11 {p : Program} {l : Launch} {e : Env} {s : State} {m : MethodId} {below : List Frame} {meth : Method} {c : Code} {Q : State → Prop} {b L : Nat} {xs : Nat → Int32} {D : va_G} {dA : Nat → ClassId} {a1 a2 i cells slots : Nat} {ls : Array Slot} {w : cWld} {H : Heap} {locs : List Loc} (C : k_Cx p s m c b L xs D dA) (I : k_In s D dA a1 a2 w H locs ∧ k_R a1 a2 w) (hl : lv_has ls 4 (k_lv b a1 a2 i)) (hi : i + 7 ≤ L) (hcb : cells + 26 ≤ 600000) (hsb : slots + 1584 ≤ 7302250)
    (kk : ∀ (w : cWld) (H : Heap) (locs : List Loc), k_In s D dA a1 a2 w H locs ∧ k_R a1 a2 w → W p l e room_1 s m #[Value.ref b] below meth c H locs (cells + 26) (slots + 1584) Q (F0 m 1989 ls [])) : W p l e room_1 s m #[Value.ref b] below meth c H locs cells slots Q (F0 m 643 ls []) := by
  have hc0 : cells ≤ 600000 := by omega
  have hs0 : slots ≤ 7302250 := by omega
  have hc1 := hcb
  have hs1 := hsb
  obtain ⟨I, hR⟩ := I
  refine lv_aload_n C.1 C.2.1 k_L643 rfl (lv_at hl 1 rfl) ?_
  refine k_arg C I hl (k := 1) (by omega) k_L644 k_L645 k_L646 (by decide) k_L647 k_L648 ?_
  refine k_arg C I hl (k := 2) (by omega) k_L649 k_L650 k_L651 (by decide) k_L652 k_L653 ?_
  refine k_pub C I (a := 143) (idx := 67) (M := k_M143) (ct := k_c143_0) rfl k_pm143_0 rfl (k_in 4 136 rfl rfl) (by decide +kernel) (x := a1) (As := [.int (xs (i + 1)), .int (xs (i + 2))]) (rest := []) [(a1 : Int), ((xs (i + 1))).toInt, ((xs (i + 2))).toInt] (k_preC 0 rfl (by decide +kernel) ⟨k_aR I.2.2.2.2.1, k_aI _, k_aI _, trivial⟩ trivial) (Nat.le_of_ble_eq_true rfl) k_L654 hc0 hs0 hl.1 (fun rv1 rs1 w1 H1 lo1 hv1 hp1 I1 => ?_)
  obtain ⟨r1, rfl, rfl⟩ := hv1
  have hR := k_RK hp1.1 (by decide +kernel) (by decide +kernel) hR
  refine lv_pop C.1 C.2.1 k_L657 rfl ?_
  refine lv_aload_n C.1 C.2.1 k_L658 rfl (lv_at hl 2 rfl) ?_
  refine k_arg C I1 hl (k := 1) (by omega) k_L659 k_L660 k_L661 (by decide) k_L662 k_L663 ?_
  refine k_arg C I1 hl (k := 2) (by omega) k_L664 k_L665 k_L666 (by decide) k_L667 k_L668 ?_
  refine k_pub C I1 (a := 258) (idx := 71) (M := k_M258) (ct := k_c258_0) rfl k_pm258_0 rfl (k_in 8 193 rfl rfl) (by decide +kernel) (x := a2) (As := [.int (xs (i + 1)), .int (xs (i + 2))]) (rest := []) [(a2 : Int), ((xs (i + 1))).toInt, ((xs (i + 2))).toInt] (k_preC 0 rfl (by decide +kernel) ⟨k_aR I1.2.2.2.2.2.1, k_aI _, k_aI _, trivial⟩ trivial) (Nat.le_of_ble_eq_true rfl) k_L669 hc0 hs0 hl.1 (fun rv2 rs2 w2 H2 lo2 hv2 hp2 I2 => ?_)
  obtain ⟨r2, rfl, rfl⟩ := hv2
  have hR := k_RK hp2.1 (by decide +kernel) (by decide +kernel) hR
  refine lv_pop C.1 C.2.1 k_L672 rfl ?_
  refine lv_goto C.1 C.2.1 k_L673 (tgt := 1989) (by decide) ?_
  exact W.widen (Nat.le_add_right _ _) (Nat.le_add_right _ _) (kk _ _ _ ⟨I2, hR⟩)
theorem k_case12 {p : Program} {l : Launch} {e : Env} {s : State} {m : MethodId} {below : List Frame} {meth : Method} {c : Code} {Q : State → Prop} {b L : Nat} {xs : Nat → Int32} {D : va_G} {dA : Nat → ClassId} {a1 a2 i cells slots : Nat} {ls : Array Slot} {w : cWld} {H : Heap} {locs : List Loc} (C : k_Cx p s m c b L xs D dA) (I : k_In s D dA a1 a2 w H locs ∧ k_R a1 a2 w) (hl : lv_has ls 4 (k_lv b a1 a2 i)) (hi : i + 7 ≤ L) (hcb : cells + 26 ≤ 600000) (hsb : slots + 1584 ≤ 7302250)
    (kk : ∀ (w : cWld) (H : Heap) (locs : List Loc), k_In s D dA a1 a2 w H locs ∧ k_R a1 a2 w → W p l e room_1 s m #[Value.ref b] below meth c H locs (cells + 26) (slots + 1584) Q (F0 m 1989 ls [])) : W p l e room_1 s m #[Value.ref b] below meth c H locs cells slots Q (F0 m 676 ls []) := by
  have hc0 : cells ≤ 600000 := by omega
  have hs0 : slots ≤ 7302250 := by omega
  have hc1 := hcb
  have hs1 := hsb
  obtain ⟨I, hR⟩ := I
  refine lv_aload_n C.1 C.2.1 k_L676 rfl (lv_at hl 1 rfl) ?_
  refine k_arg C I hl (k := 1) (by omega) k_L677 k_L678 k_L679 (by decide) k_L680 k_L681 ?_
  refine k_arg C I hl (k := 2) (by omega) k_L682 k_L683 k_L684 (by decide) k_L685 k_L686 ?_
  refine k_arg C I hl (k := 3) (by omega) k_L687 k_L688 k_L689 (by decide) k_L690 k_L691 ?_
  refine k_arg C I hl (k := 4) (by omega) k_L692 k_L693 k_L694 (by decide) k_L695 k_L696 ?_
  refine k_arg C I hl (k := 5) (by omega) k_L697 k_L698 k_L699 (by decide) k_L700 k_L701 ?_
  refine k_argB C I hl (k := 6) (by omega) k_L702 k_L703 k_L704 (by decide) k_L706 k_L707 ?_
  refine k_pub C I (a := 144) (idx := 72) (M := k_M144) (ct := k_c144_0) rfl k_pm144_0 rfl (k_in 4 144 rfl rfl) (by decide +kernel) (x := a1) (As := [.int (xs (i + 1)), .int (xs (i + 2)), .int (xs (i + 3)), .int (xs (i + 4)), .int (xs (i + 5)), .int (xs (i + 6))]) (rest := []) [(a1 : Int), ((xs (i + 1))).toInt, ((xs (i + 2))).toInt, ((xs (i + 3))).toInt, ((xs (i + 4))).toInt, ((xs (i + 5))).toInt, ((xs (i + 6))).toInt] (k_preC 0 rfl (by decide +kernel) ⟨k_aR I.2.2.2.2.1, k_aI _, k_aI _, k_aI _, k_aI _, k_aI _, k_aI _, trivial⟩ trivial) (Nat.le_of_ble_eq_true rfl) k_L708 hc0 hs0 hl.1 (fun rv1 rs1 w1 H1 lo1 hv1 hp1 I1 => ?_)
  obtain ⟨r1, rfl, rfl⟩ := hv1
  have hR := k_RK hp1.1 (by decide +kernel) (by decide +kernel) hR
  refine lv_pop C.1 C.2.1 k_L711 rfl ?_
  refine lv_aload_n C.1 C.2.1 k_L712 rfl (lv_at hl 2 rfl) ?_
  refine k_arg C I1 hl (k := 1) (by omega) k_L713 k_L714 k_L715 (by decide) k_L716 k_L717 ?_
  refine k_arg C I1 hl (k := 2) (by omega) k_L718 k_L719 k_L720 (by decide) k_L721 k_L722 ?_
  refine k_arg C I1 hl (k := 3) (by omega) k_L723 k_L724 k_L725 (by decide) k_L726 k_L727 ?_
  refine k_arg C I1 hl (k := 4) (by omega) k_L728 k_L729 k_L730 (by decide) k_L731 k_L732 ?_
  refine k_arg C I1 hl (k := 5) (by omega) k_L733 k_L734 k_L735 (by decide) k_L736 k_L737 ?_
  refine k_argB C I1 hl (k := 6) (by omega) k_L738 k_L739 k_L740 (by decide) k_L742 k_L743 ?_
  refine k_pub C I1 (a := 262) (idx := 76) (M := k_M262) (ct := k_c262_0) rfl k_pm262_0 rfl (k_in 8 201 rfl rfl) (by decide +kernel) (x := a2) (As := [.int (xs (i + 1)), .int (xs (i + 2)), .int (xs (i + 3)), .int (xs (i + 4)), .int (xs (i + 5)), .int (xs (i + 6))]) (rest := []) [(a2 : Int), ((xs (i + 1))).toInt, ((xs (i + 2))).toInt, ((xs (i + 3))).toInt, ((xs (i + 4))).toInt, ((xs (i + 5))).toInt, ((xs (i + 6))).toInt, 0] (k_preC 8 rfl (by decide +kernel) ⟨k_aR I1.2.2.2.2.2.1, k_aI _, k_aI _, k_aI _, k_aI _, k_aI _, k_aI _, trivial⟩ ⟨k_ghc I1.2.2.2.2.2.2 rfl, trivial⟩) (Nat.le_of_ble_eq_true rfl) k_L744 hc0 hs0 hl.1 (fun rv2 rs2 w2 H2 lo2 hv2 hp2 I2 => ?_)
  obtain ⟨r2, rfl, rfl⟩ := hv2
  have hR := k_RK hp2.1 (by decide +kernel) (by decide +kernel) hR
  refine lv_pop C.1 C.2.1 k_L747 rfl ?_
  refine lv_goto C.1 C.2.1 k_L748 (tgt := 1989) (by decide) ?_
  exact W.widen (Nat.le_add_right _ _) (Nat.le_add_right _ _) (kk _ _ _ ⟨I2, hR⟩)
theorem k_case13 {p : Program} {l : Launch} {e : Env} {s : State} {m : MethodId} {below : List Frame} {meth : Method} {c : Code} {Q : State → Prop} {b L : Nat} {xs : Nat → Int32} {D : va_G} {dA : Nat → ClassId} {a1 a2 i cells slots : Nat} {ls : Array Slot} {w : cWld} {H : Heap} {locs : List Loc} (C : k_Cx p s m c b L xs D dA) (I : k_In s D dA a1 a2 w H locs ∧ k_R a1 a2 w) (hl : lv_has ls 4 (k_lv b a1 a2 i)) (hi : i + 7 ≤ L) (hcb : cells + 26 ≤ 600000) (hsb : slots + 1584 ≤ 7302250)
    (kk : ∀ (w : cWld) (H : Heap) (locs : List Loc), k_In s D dA a1 a2 w H locs ∧ k_R a1 a2 w → W p l e room_1 s m #[Value.ref b] below meth c H locs (cells + 26) (slots + 1584) Q (F0 m 1989 ls [])) : W p l e room_1 s m #[Value.ref b] below meth c H locs cells slots Q (F0 m 751 ls []) := by
  have hc0 : cells ≤ 600000 := by omega
  have hs0 : slots ≤ 7302250 := by omega
  have hc1 := hcb
  have hs1 := hsb
  obtain ⟨I, hR⟩ := I
  refine lv_aload_n C.1 C.2.1 k_L751 rfl (lv_at hl 1 rfl) ?_
  refine k_arg C I hl (k := 1) (by omega) k_L752 k_L753 k_L754 (by decide) k_L755 k_L756 ?_
  refine k_pub C I (a := 145) (idx := 77) (M := k_M145) (ct := k_c145_0) rfl k_pm145_0 rfl (k_in 4 182 rfl rfl) (by decide +kernel) (x := a1) (As := [.int (xs (i + 1))]) (rest := []) [(a1 : Int), ((xs (i + 1))).toInt] (k_preC 0 rfl (by decide +kernel) ⟨k_aR I.2.2.2.2.1, k_aI _, trivial⟩ trivial) (Nat.le_of_ble_eq_true rfl) k_L757 hc0 hs0 hl.1 (fun rv1 rs1 w1 H1 lo1 hv1 hp1 I1 => ?_)
  obtain ⟨r1, rfl, rfl⟩ := hv1
  have hR := k_RK hp1.1 (by decide +kernel) (by decide +kernel) hR
  refine lv_pop C.1 C.2.1 k_L760 rfl ?_
  refine lv_aload_n C.1 C.2.1 k_L761 rfl (lv_at hl 2 rfl) ?_
  refine k_arg C I1 hl (k := 1) (by omega) k_L762 k_L763 k_L764 (by decide) k_L765 k_L766 ?_
  refine k_pub C I1 (a := 264) (idx := 80) (M := k_M264) (ct := k_c264_0) rfl k_pm264_0 rfl (k_in 8 234 rfl rfl) (by decide +kernel) (x := a2) (As := [.int (xs (i + 1))]) (rest := []) [(a2 : Int), ((xs (i + 1))).toInt] (k_preC 0 rfl (by decide +kernel) ⟨k_aR I1.2.2.2.2.2.1, k_aI _, trivial⟩ trivial) (Nat.le_of_ble_eq_true rfl) k_L767 hc0 hs0 hl.1 (fun rv2 rs2 w2 H2 lo2 hv2 hp2 I2 => ?_)
  obtain ⟨r2, rfl, rfl⟩ := hv2
  have hR := k_RK hp2.1 (by decide +kernel) (by decide +kernel) hR
  refine lv_pop C.1 C.2.1 k_L770 rfl ?_
  refine lv_goto C.1 C.2.1 k_L771 (tgt := 1989) (by decide) ?_
  exact W.widen (Nat.le_add_right _ _) (Nat.le_add_right _ _) (kk _ _ _ ⟨I2, hR⟩)
theorem k_case14 {p : Program} {l : Launch} {e : Env} {s : State} {m : MethodId} {below : List Frame} {meth : Method} {c : Code} {Q : State → Prop} {b L : Nat} {xs : Nat → Int32} {D : va_G} {dA : Nat → ClassId} {a1 a2 i cells slots : Nat} {ls : Array Slot} {w : cWld} {H : Heap} {locs : List Loc} (C : k_Cx p s m c b L xs D dA) (I : k_In s D dA a1 a2 w H locs ∧ k_R a1 a2 w) (hl : lv_has ls 4 (k_lv b a1 a2 i)) (hi : i + 7 ≤ L) (hcb : cells + 26 ≤ 600000) (hsb : slots + 1584 ≤ 7302250)
    (kk : ∀ (w : cWld) (H : Heap) (locs : List Loc), k_In s D dA a1 a2 w H locs ∧ k_R a1 a2 w → W p l e room_1 s m #[Value.ref b] below meth c H locs (cells + 26) (slots + 1584) Q (F0 m 1989 ls [])) : W p l e room_1 s m #[Value.ref b] below meth c H locs cells slots Q (F0 m 774 ls []) := by
  have hc0 : cells ≤ 600000 := by omega
  have hs0 : slots ≤ 7302250 := by omega
  have hc1 := hcb
  have hs1 := hsb
  obtain ⟨I, hR⟩ := I
  refine lv_aload_n C.1 C.2.1 k_L774 rfl (lv_at hl 1 rfl) ?_
  refine k_arg C I hl (k := 1) (by omega) k_L775 k_L776 k_L777 (by decide) k_L778 k_L779 ?_
  refine k_arg C I hl (k := 2) (by omega) k_L780 k_L781 k_L782 (by decide) k_L783 k_L784 ?_
  refine k_pub C I (a := 146) (idx := 81) (M := k_M146) (ct := k_c146_0) rfl k_pm146_0 rfl (k_in 4 203 rfl rfl) (by decide +kernel) (x := a1) (As := [.int (xs (i + 1)), .int (xs (i + 2))]) (rest := []) [(a1 : Int), ((xs (i + 1))).toInt, ((xs (i + 2))).toInt] (k_preC 0 rfl (by decide +kernel) ⟨k_aR I.2.2.2.2.1, k_aI _, k_aI _, trivial⟩ trivial) (Nat.le_of_ble_eq_true rfl) k_L785 hc0 hs0 hl.1 (fun rv1 rs1 w1 H1 lo1 hv1 hp1 I1 => ?_)
  obtain ⟨r1, rfl, rfl⟩ := hv1
  have hR := k_RK hp1.1 (by decide +kernel) (by decide +kernel) hR
  refine lv_pop C.1 C.2.1 k_L788 rfl ?_
  refine lv_aload_n C.1 C.2.1 k_L789 rfl (lv_at hl 2 rfl) ?_
  refine k_arg C I1 hl (k := 1) (by omega) k_L790 k_L791 k_L792 (by decide) k_L793 k_L794 ?_
  refine k_arg C I1 hl (k := 2) (by omega) k_L795 k_L796 k_L797 (by decide) k_L798 k_L799 ?_
  refine k_pub C I1 (a := 265) (idx := 84) (M := k_M265) (ct := k_c265_0) rfl k_pm265_0 rfl (k_in 9 10 rfl rfl) (by decide +kernel) (x := a2) (As := [.int (xs (i + 1)), .int (xs (i + 2))]) (rest := []) [(a2 : Int), ((xs (i + 1))).toInt, ((xs (i + 2))).toInt] (k_preC 0 rfl (by decide +kernel) ⟨k_aR I1.2.2.2.2.2.1, k_aI _, k_aI _, trivial⟩ trivial) (Nat.le_of_ble_eq_true rfl) k_L800 hc0 hs0 hl.1 (fun rv2 rs2 w2 H2 lo2 hv2 hp2 I2 => ?_)
  obtain ⟨r2, rfl, rfl⟩ := hv2
  have hR := k_RK hp2.1 (by decide +kernel) (by decide +kernel) hR
  refine lv_pop C.1 C.2.1 k_L803 rfl ?_
  refine lv_goto C.1 C.2.1 k_L804 (tgt := 1989) (by decide) ?_
  exact W.widen (Nat.le_add_right _ _) (Nat.le_add_right _ _) (kk _ _ _ ⟨I2, hR⟩)
theorem k_case15 {p : Program} {l : Launch} {e : Env} {s : State} {m : MethodId} {below : List Frame} {meth : Method} {c : Code} {Q : State → Prop} {b L : Nat} {xs : Nat → Int32} {D : va_G} {dA : Nat → ClassId} {a1 a2 i cells slots : Nat} {ls : Array Slot} {w : cWld} {H : Heap} {locs : List Loc} (C : k_Cx p s m c b L xs D dA) (I : k_In s D dA a1 a2 w H locs ∧ k_R a1 a2 w) (hl : lv_has ls 4 (k_lv b a1 a2 i)) (hi : i + 7 ≤ L) (hcb : cells + 26 ≤ 600000) (hsb : slots + 1584 ≤ 7302250)
    (kk : ∀ (w : cWld) (H : Heap) (locs : List Loc), k_In s D dA a1 a2 w H locs ∧ k_R a1 a2 w → W p l e room_1 s m #[Value.ref b] below meth c H locs (cells + 26) (slots + 1584) Q (F0 m 1989 ls [])) : W p l e room_1 s m #[Value.ref b] below meth c H locs cells slots Q (F0 m 807 ls []) := by
  have hc0 : cells ≤ 600000 := by omega
  have hs0 : slots ≤ 7302250 := by omega
  have hc1 := hcb
  have hs1 := hsb
  obtain ⟨I, hR⟩ := I
  refine lv_aload_n C.1 C.2.1 k_L807 rfl (lv_at hl 1 rfl) ?_
  refine k_arg C I hl (k := 1) (by omega) k_L808 k_L809 k_L810 (by decide) k_L811 k_L812 ?_
  refine k_arg C I hl (k := 2) (by omega) k_L813 k_L814 k_L815 (by decide) k_L816 k_L817 ?_
  refine k_bool C k_L818 k_L821 k_L822 k_L825 (fun z1 hz1 => ?_)
  refine k_arg C I hl (k := 3) (by omega) k_L826 k_L827 k_L828 (by decide) k_L829 k_L830 ?_
  refine k_pub C I (a := 147) (idx := 85) (M := k_M147) (ct := k_c147_0) rfl k_pm147_0 rfl (k_in 4 216 rfl rfl) (by decide +kernel) (x := a1) (As := [.int (xs (i + 1)), .int z1, .int (xs (i + 3))]) (rest := []) [(a1 : Int), ((xs (i + 1))).toInt, (z1).toInt, ((xs (i + 3))).toInt] (k_preC 0 rfl (by decide +kernel) ⟨k_aR I.2.2.2.2.1, k_aI _, k_aZ hz1, k_aI _, trivial⟩ trivial) (Nat.le_of_ble_eq_true rfl) k_L831 hc0 hs0 hl.1 (fun rv1 rs1 w1 H1 lo1 hv1 hp1 I1 => ?_)
  obtain ⟨r1, rfl, rfl, -, -⟩ := hv1
  have hR := k_RK hp1.1 (by decide +kernel) (by decide +kernel) hR
  refine lv_pop C.1 C.2.1 k_L834 rfl ?_
  refine lv_aload_n C.1 C.2.1 k_L835 rfl (lv_at hl 2 rfl) ?_
  refine k_arg C I1 hl (k := 1) (by omega) k_L836 k_L837 k_L838 (by decide) k_L839 k_L840 ?_
  refine k_arg C I1 hl (k := 2) (by omega) k_L841 k_L842 k_L843 (by decide) k_L844 k_L845 ?_
  refine k_bool C k_L846 k_L849 k_L850 k_L853 (fun z2 hz2 => ?_)
  refine k_arg C I1 hl (k := 3) (by omega) k_L854 k_L855 k_L856 (by decide) k_L857 k_L858 ?_
  refine k_pub C I1 (a := 266) (idx := 89) (M := k_M266) (ct := k_c266_0) rfl k_pm266_0 rfl (k_in 9 19 rfl rfl) (by decide +kernel) (x := a2) (As := [.int (xs (i + 1)), .int z2, .int (xs (i + 3))]) (rest := []) [(a2 : Int), ((xs (i + 1))).toInt, (z2).toInt, ((xs (i + 3))).toInt] (k_preC 0 rfl (by decide +kernel) ⟨k_aR I1.2.2.2.2.2.1, k_aI _, k_aZ hz2, k_aI _, trivial⟩ trivial) (Nat.le_of_ble_eq_true rfl) k_L859 hc0 hs0 hl.1 (fun rv2 rs2 w2 H2 lo2 hv2 hp2 I2 => ?_)
  obtain ⟨r2, rfl, rfl, -, -⟩ := hv2
  have hR := k_RK hp2.1 (by decide +kernel) (by decide +kernel) hR
  refine lv_pop C.1 C.2.1 k_L862 rfl ?_
  refine lv_goto C.1 C.2.1 k_L863 (tgt := 1989) (by decide) ?_
  exact W.widen (Nat.le_add_right _ _) (Nat.le_add_right _ _) (kk _ _ _ ⟨I2, hR⟩)
theorem k_case16 {p : Program} {l : Launch} {e : Env} {s : State} {m : MethodId} {below : List Frame} {meth : Method} {c : Code} {Q : State → Prop} {b L : Nat} {xs : Nat → Int32} {D : va_G} {dA : Nat → ClassId} {a1 a2 i cells slots : Nat} {ls : Array Slot} {w : cWld} {H : Heap} {locs : List Loc} (C : k_Cx p s m c b L xs D dA) (I : k_In s D dA a1 a2 w H locs ∧ k_R a1 a2 w) (hl : lv_has ls 4 (k_lv b a1 a2 i)) (hi : i + 7 ≤ L) (hcb : cells + 26 ≤ 600000) (hsb : slots + 1584 ≤ 7302250)
    (kk : ∀ (w : cWld) (H : Heap) (locs : List Loc), k_In s D dA a1 a2 w H locs ∧ k_R a1 a2 w → W p l e room_1 s m #[Value.ref b] below meth c H locs (cells + 26) (slots + 1584) Q (F0 m 1989 ls [])) : W p l e room_1 s m #[Value.ref b] below meth c H locs cells slots Q (F0 m 866 ls []) := by
  have hc0 : cells ≤ 600000 := by omega
  have hs0 : slots ≤ 7302250 := by omega
  have hc1 := hcb
  have hs1 := hsb
  obtain ⟨I, hR⟩ := I
  refine lv_aload_n C.1 C.2.1 k_L866 rfl (lv_at hl 1 rfl) ?_
  refine k_arg C I hl (k := 1) (by omega) k_L867 k_L868 k_L869 (by decide) k_L870 k_L871 ?_
  refine k_pub C I (a := 148) (idx := 90) (M := k_M148) (ct := k_c148_0) rfl k_pm148_0 rfl (k_in 4 222 rfl rfl) (by decide +kernel) (x := a1) (As := [.int (xs (i + 1))]) (rest := []) [(a1 : Int), ((xs (i + 1))).toInt] (k_preC 0 rfl (by decide +kernel) ⟨k_aR I.2.2.2.2.1, k_aI _, trivial⟩ trivial) (Nat.le_of_ble_eq_true rfl) k_L872 hc0 hs0 hl.1 (fun rv1 rs1 w1 H1 lo1 hv1 hp1 I1 => ?_)
  obtain ⟨r1, rfl, rfl, -, -⟩ := hv1
  have hR := k_RK hp1.1 (by decide +kernel) (by decide +kernel) hR
  refine lv_pop C.1 C.2.1 k_L875 rfl ?_
  refine lv_aload_n C.1 C.2.1 k_L876 rfl (lv_at hl 2 rfl) ?_
  refine k_arg C I1 hl (k := 1) (by omega) k_L877 k_L878 k_L879 (by decide) k_L880 k_L881 ?_
  refine k_pub C I1 (a := 267) (idx := 94) (M := k_M267) (ct := k_c267_0) rfl k_pm267_0 rfl (k_in 9 23 rfl rfl) (by decide +kernel) (x := a2) (As := [.int (xs (i + 1))]) (rest := []) [(a2 : Int), ((xs (i + 1))).toInt] (k_preC 0 rfl (by decide +kernel) ⟨k_aR I1.2.2.2.2.2.1, k_aI _, trivial⟩ trivial) (Nat.le_of_ble_eq_true rfl) k_L882 hc0 hs0 hl.1 (fun rv2 rs2 w2 H2 lo2 hv2 hp2 I2 => ?_)
  obtain ⟨r2, rfl, rfl, -, -⟩ := hv2
  have hR := k_RK hp2.1 (by decide +kernel) (by decide +kernel) hR
  refine lv_pop C.1 C.2.1 k_L885 rfl ?_
  refine lv_goto C.1 C.2.1 k_L886 (tgt := 1989) (by decide) ?_
  exact W.widen (Nat.le_add_right _ _) (Nat.le_add_right _ _) (kk _ _ _ ⟨I2, hR⟩)
theorem k_case17 {p : Program} {l : Launch} {e : Env} {s : State} {m : MethodId} {below : List Frame} {meth : Method} {c : Code} {Q : State → Prop} {b L : Nat} {xs : Nat → Int32} {D : va_G} {dA : Nat → ClassId} {a1 a2 i cells slots : Nat} {ls : Array Slot} {w : cWld} {H : Heap} {locs : List Loc} (C : k_Cx p s m c b L xs D dA) (I : k_In s D dA a1 a2 w H locs ∧ k_R a1 a2 w) (hl : lv_has ls 4 (k_lv b a1 a2 i)) (hi : i + 7 ≤ L) (hcb : cells + 26 ≤ 600000) (hsb : slots + 1584 ≤ 7302250)
    (kk : ∀ (w : cWld) (H : Heap) (locs : List Loc), k_In s D dA a1 a2 w H locs ∧ k_R a1 a2 w → W p l e room_1 s m #[Value.ref b] below meth c H locs (cells + 26) (slots + 1584) Q (F0 m 1989 ls [])) : W p l e room_1 s m #[Value.ref b] below meth c H locs cells slots Q (F0 m 889 ls []) := by
  have hc0 : cells ≤ 600000 := by omega
  have hs0 : slots ≤ 7302250 := by omega
  have hc1 := hcb
  have hs1 := hsb
  obtain ⟨I, hR⟩ := I
  refine lv_aload_n C.1 C.2.1 k_L889 rfl (lv_at hl 1 rfl) ?_
  refine k_arg C I hl (k := 1) (by omega) k_L890 k_L891 k_L892 (by decide) k_L893 k_L894 ?_
  refine k_arg C I hl (k := 2) (by omega) k_L895 k_L896 k_L897 (by decide) k_L898 k_L899 ?_
  refine k_pub C I (a := 149) (idx := 95) (M := k_M149) (ct := k_c149_0) rfl k_pm149_0 rfl (k_in 4 231 rfl rfl) (by decide +kernel) (x := a1) (As := [.int (xs (i + 1)), .int (xs (i + 2))]) (rest := []) [(a1 : Int), ((xs (i + 1))).toInt, ((xs (i + 2))).toInt] (k_preC 0 rfl (by decide +kernel) ⟨k_aR I.2.2.2.2.1, k_aI _, k_aI _, trivial⟩ trivial) (Nat.le_of_ble_eq_true rfl) k_L900 hc0 hs0 hl.1 (fun rv1 rs1 w1 H1 lo1 hv1 hp1 I1 => ?_)
  obtain ⟨r1, rfl, rfl, -, -⟩ := hv1
  have hR := k_RK hp1.1 (by decide +kernel) (by decide +kernel) hR
  refine lv_pop C.1 C.2.1 k_L903 rfl ?_
  refine lv_aload_n C.1 C.2.1 k_L904 rfl (lv_at hl 2 rfl) ?_
  refine k_arg C I1 hl (k := 1) (by omega) k_L905 k_L906 k_L907 (by decide) k_L908 k_L909 ?_
  refine k_arg C I1 hl (k := 2) (by omega) k_L910 k_L911 k_L912 (by decide) k_L913 k_L914 ?_
  refine k_pub C I1 (a := 268) (idx := 99) (M := k_M268) (ct := k_c268_0) rfl k_pm268_0 rfl (k_in 9 27 rfl rfl) (by decide +kernel) (x := a2) (As := [.int (xs (i + 1)), .int (xs (i + 2))]) (rest := []) [(a2 : Int), ((xs (i + 1))).toInt, ((xs (i + 2))).toInt] (k_preC 0 rfl (by decide +kernel) ⟨k_aR I1.2.2.2.2.2.1, k_aI _, k_aI _, trivial⟩ trivial) (Nat.le_of_ble_eq_true rfl) k_L915 hc0 hs0 hl.1 (fun rv2 rs2 w2 H2 lo2 hv2 hp2 I2 => ?_)
  obtain ⟨r2, rfl, rfl, -, -⟩ := hv2
  have hR := k_RK hp2.1 (by decide +kernel) (by decide +kernel) hR
  refine lv_pop C.1 C.2.1 k_L918 rfl ?_
  refine lv_goto C.1 C.2.1 k_L919 (tgt := 1989) (by decide) ?_
  exact W.widen (Nat.le_add_right _ _) (Nat.le_add_right _ _) (kk _ _ _ ⟨I2, hR⟩)
theorem k_case18 {p : Program} {l : Launch} {e : Env} {s : State} {m : MethodId} {below : List Frame} {meth : Method} {c : Code} {Q : State → Prop} {b L : Nat} {xs : Nat → Int32} {D : va_G} {dA : Nat → ClassId} {a1 a2 i cells slots : Nat} {ls : Array Slot} {w : cWld} {H : Heap} {locs : List Loc} (C : k_Cx p s m c b L xs D dA) (I : k_In s D dA a1 a2 w H locs ∧ k_R a1 a2 w) (hl : lv_has ls 4 (k_lv b a1 a2 i)) (hi : i + 7 ≤ L) (hcb : cells + 26 ≤ 600000) (hsb : slots + 1584 ≤ 7302250)
    (kk : ∀ (w : cWld) (H : Heap) (locs : List Loc), k_In s D dA a1 a2 w H locs ∧ k_R a1 a2 w → W p l e room_1 s m #[Value.ref b] below meth c H locs (cells + 26) (slots + 1584) Q (F0 m 1989 ls [])) : W p l e room_1 s m #[Value.ref b] below meth c H locs cells slots Q (F0 m 922 ls []) := by
  have hc0 : cells ≤ 600000 := by omega
  have hs0 : slots ≤ 7302250 := by omega
  have hc1 := hcb
  have hs1 := hsb
  obtain ⟨I, hR⟩ := I
  refine lv_aload_n C.1 C.2.1 k_L922 rfl (lv_at hl 1 rfl) ?_
  refine k_arg C I hl (k := 1) (by omega) k_L923 k_L924 k_L925 (by decide) k_L926 k_L927 ?_
  refine k_arg C I hl (k := 2) (by omega) k_L928 k_L929 k_L930 (by decide) k_L931 k_L932 ?_
  refine k_arg C I hl (k := 3) (by omega) k_L933 k_L934 k_L935 (by decide) k_L936 k_L937 ?_
  refine k_arg C I hl (k := 4) (by omega) k_L938 k_L939 k_L940 (by decide) k_L941 k_L942 ?_
  refine k_pub C I (a := 150) (idx := 100) (M := k_M150) (ct := k_c150_0) rfl k_pm150_0 rfl (k_in 4 235 rfl rfl) (by decide +kernel) (x := a1) (As := [.int (xs (i + 1)), .int (xs (i + 2)), .int (xs (i + 3)), .int (xs (i + 4))]) (rest := []) [(a1 : Int), ((xs (i + 1))).toInt, ((xs (i + 2))).toInt, ((xs (i + 3))).toInt, ((xs (i + 4))).toInt] (k_preC 0 rfl (by decide +kernel) ⟨k_aR I.2.2.2.2.1, k_aI _, k_aI _, k_aI _, k_aI _, trivial⟩ trivial) (Nat.le_of_ble_eq_true rfl) k_L943 hc0 hs0 hl.1 (fun rv1 rs1 w1 H1 lo1 hv1 hp1 I1 => ?_)
  obtain ⟨r1, rfl, rfl, -, -⟩ := hv1
  have hR := k_RK hp1.1 (by decide +kernel) (by decide +kernel) hR
  refine lv_pop C.1 C.2.1 k_L946 rfl ?_
  refine lv_aload_n C.1 C.2.1 k_L947 rfl (lv_at hl 2 rfl) ?_
  refine k_arg C I1 hl (k := 1) (by omega) k_L948 k_L949 k_L950 (by decide) k_L951 k_L952 ?_
  refine k_arg C I1 hl (k := 2) (by omega) k_L953 k_L954 k_L955 (by decide) k_L956 k_L957 ?_
  refine k_arg C I1 hl (k := 3) (by omega) k_L958 k_L959 k_L960 (by decide) k_L961 k_L962 ?_
  refine k_arg C I1 hl (k := 4) (by omega) k_L963 k_L964 k_L965 (by decide) k_L966 k_L967 ?_
  refine k_pub C I1 (a := 269) (idx := 104) (M := k_M269) (ct := k_c269_0) rfl k_pm269_0 rfl (k_in 9 32 rfl rfl) (by decide +kernel) (x := a2) (As := [.int (xs (i + 1)), .int (xs (i + 2)), .int (xs (i + 3)), .int (xs (i + 4))]) (rest := []) [(a2 : Int), ((xs (i + 1))).toInt, ((xs (i + 2))).toInt, ((xs (i + 3))).toInt, ((xs (i + 4))).toInt] (k_preC 0 rfl (by decide +kernel) ⟨k_aR I1.2.2.2.2.2.1, k_aI _, k_aI _, k_aI _, k_aI _, trivial⟩ trivial) (Nat.le_of_ble_eq_true rfl) k_L968 hc0 hs0 hl.1 (fun rv2 rs2 w2 H2 lo2 hv2 hp2 I2 => ?_)
  obtain ⟨r2, rfl, rfl, -, -⟩ := hv2
  have hR := k_RK hp2.1 (by decide +kernel) (by decide +kernel) hR
  refine lv_pop C.1 C.2.1 k_L971 rfl ?_
  refine lv_goto C.1 C.2.1 k_L972 (tgt := 1989) (by decide) ?_
  exact W.widen (Nat.le_add_right _ _) (Nat.le_add_right _ _) (kk _ _ _ ⟨I2, hR⟩)
theorem k_case19 {p : Program} {l : Launch} {e : Env} {s : State} {m : MethodId} {below : List Frame} {meth : Method} {c : Code} {Q : State → Prop} {b L : Nat} {xs : Nat → Int32} {D : va_G} {dA : Nat → ClassId} {a1 a2 i cells slots : Nat} {ls : Array Slot} {w : cWld} {H : Heap} {locs : List Loc} (C : k_Cx p s m c b L xs D dA) (I : k_In s D dA a1 a2 w H locs ∧ k_R a1 a2 w) (hl : lv_has ls 4 (k_lv b a1 a2 i)) (hi : i + 7 ≤ L) (hcb : cells + 26 ≤ 600000) (hsb : slots + 1584 ≤ 7302250)
    (kk : ∀ (w : cWld) (H : Heap) (locs : List Loc), k_In s D dA a1 a2 w H locs ∧ k_R a1 a2 w → W p l e room_1 s m #[Value.ref b] below meth c H locs (cells + 26) (slots + 1584) Q (F0 m 1989 ls [])) : W p l e room_1 s m #[Value.ref b] below meth c H locs cells slots Q (F0 m 975 ls []) := by
  have hc0 : cells ≤ 600000 := by omega
  have hs0 : slots ≤ 7302250 := by omega
  have hc1 := hcb
  have hs1 := hsb
  obtain ⟨I, hR⟩ := I
  refine lv_aload_n C.1 C.2.1 k_L975 rfl (lv_at hl 1 rfl) ?_
  refine k_arg C I hl (k := 1) (by omega) k_L976 k_L977 k_L978 (by decide) k_L979 k_L980 ?_
  refine k_bool C k_L981 k_L984 k_L985 k_L988 (fun z1 hz1 => ?_)
  refine k_pub C I (a := 151) (idx := 105) (M := k_M151) (ct := k_c151_0) rfl k_pm151_0 rfl (k_in 5 1 rfl rfl) (by decide +kernel) (x := a1) (As := [.int z1]) (rest := []) [(a1 : Int), (z1).toInt] (k_preC 0 rfl (by decide +kernel) ⟨k_aR I.2.2.2.2.1, k_aZ hz1, trivial⟩ trivial) (Nat.le_of_ble_eq_true rfl) k_L989 hc0 hs0 hl.1 (fun rv1 rs1 w1 H1 lo1 hv1 hp1 I1 => ?_)
  obtain ⟨r1, rfl, rfl, -, -⟩ := hv1
  have hR := k_RK hp1.1 (by decide +kernel) (by decide +kernel) hR
  refine lv_pop C.1 C.2.1 k_L992 rfl ?_
  refine lv_aload_n C.1 C.2.1 k_L993 rfl (lv_at hl 2 rfl) ?_
  refine k_arg C I1 hl (k := 1) (by omega) k_L994 k_L995 k_L996 (by decide) k_L997 k_L998 ?_
  refine k_bool C k_L999 k_L1002 k_L1003 k_L1006 (fun z2 hz2 => ?_)
  refine k_pub C I1 (a := 270) (idx := 109) (M := k_M270) (ct := k_c270_0) rfl k_pm270_0 rfl (k_in 9 36 rfl rfl) (by decide +kernel) (x := a2) (As := [.int z2]) (rest := []) [(a2 : Int), (z2).toInt] (k_preC 0 rfl (by decide +kernel) ⟨k_aR I1.2.2.2.2.2.1, k_aZ hz2, trivial⟩ trivial) (Nat.le_of_ble_eq_true rfl) k_L1007 hc0 hs0 hl.1 (fun rv2 rs2 w2 H2 lo2 hv2 hp2 I2 => ?_)
  obtain ⟨r2, rfl, rfl, -, -⟩ := hv2
  have hR := k_RK hp2.1 (by decide +kernel) (by decide +kernel) hR
  refine lv_pop C.1 C.2.1 k_L1010 rfl ?_
  refine lv_goto C.1 C.2.1 k_L1011 (tgt := 1989) (by decide) ?_
  exact W.widen (Nat.le_add_right _ _) (Nat.le_add_right _ _) (kk _ _ _ ⟨I2, hR⟩)
theorem k_case20 {p : Program} {l : Launch} {e : Env} {s : State} {m : MethodId} {below : List Frame} {meth : Method} {c : Code} {Q : State → Prop} {b L : Nat} {xs : Nat → Int32} {D : va_G} {dA : Nat → ClassId} {a1 a2 i cells slots : Nat} {ls : Array Slot} {w : cWld} {H : Heap} {locs : List Loc} (C : k_Cx p s m c b L xs D dA) (I : k_In s D dA a1 a2 w H locs ∧ k_R a1 a2 w) (hl : lv_has ls 4 (k_lv b a1 a2 i)) (hi : i + 7 ≤ L) (hcb : cells + 26 ≤ 600000) (hsb : slots + 1584 ≤ 7302250)
    (kk : ∀ (w : cWld) (H : Heap) (locs : List Loc), k_In s D dA a1 a2 w H locs ∧ k_R a1 a2 w → W p l e room_1 s m #[Value.ref b] below meth c H locs (cells + 26) (slots + 1584) Q (F0 m 1989 ls [])) : W p l e room_1 s m #[Value.ref b] below meth c H locs cells slots Q (F0 m 1014 ls []) := by
  have hc0 : cells ≤ 600000 := by omega
  have hs0 : slots ≤ 7302250 := by omega
  have hc1 := hcb
  have hs1 := hsb
  obtain ⟨I, hR⟩ := I
  refine lv_aload_n C.1 C.2.1 k_L1014 rfl (lv_at hl 1 rfl) ?_
  refine k_arg C I hl (k := 1) (by omega) k_L1015 k_L1016 k_L1017 (by decide) k_L1018 k_L1019 ?_
  refine k_pub C I (a := 152) (idx := 110) (M := k_M152) (ct := k_c152_0) rfl k_pm152_0 rfl (k_in 5 5 rfl rfl) (by decide +kernel) (x := a1) (As := [.int (xs (i + 1))]) (rest := []) [(a1 : Int), ((xs (i + 1))).toInt] (k_preC 0 rfl (by decide +kernel) ⟨k_aR I.2.2.2.2.1, k_aI _, trivial⟩ trivial) (Nat.le_of_ble_eq_true rfl) k_L1020 hc0 hs0 hl.1 (fun rv1 rs1 w1 H1 lo1 hv1 hp1 I1 => ?_)
  obtain ⟨r1, rfl, rfl⟩ := hv1
  have hR := k_RK hp1.1 (by decide +kernel) (by decide +kernel) hR
  refine lv_pop C.1 C.2.1 k_L1023 rfl ?_
  refine lv_aload_n C.1 C.2.1 k_L1024 rfl (lv_at hl 2 rfl) ?_
  refine k_arg C I1 hl (k := 1) (by omega) k_L1025 k_L1026 k_L1027 (by decide) k_L1028 k_L1029 ?_
  refine k_pub C I1 (a := 271) (idx := 113) (M := k_M271) (ct := k_c271_0) rfl k_pm271_0 rfl (k_in 9 40 rfl rfl) (by decide +kernel) (x := a2) (As := [.int (xs (i + 1))]) (rest := []) [(a2 : Int), ((xs (i + 1))).toInt] (k_preC 0 rfl (by decide +kernel) ⟨k_aR I1.2.2.2.2.2.1, k_aI _, trivial⟩ trivial) (Nat.le_of_ble_eq_true rfl) k_L1030 hc0 hs0 hl.1 (fun rv2 rs2 w2 H2 lo2 hv2 hp2 I2 => ?_)
  obtain ⟨r2, rfl, rfl⟩ := hv2
  have hR := k_RK hp2.1 (by decide +kernel) (by decide +kernel) hR
  refine lv_pop C.1 C.2.1 k_L1033 rfl ?_
  refine lv_goto C.1 C.2.1 k_L1034 (tgt := 1989) (by decide) ?_
  exact W.widen (Nat.le_add_right _ _) (Nat.le_add_right _ _) (kk _ _ _ ⟨I2, hR⟩)
theorem k_case21 {p : Program} {l : Launch} {e : Env} {s : State} {m : MethodId} {below : List Frame} {meth : Method} {c : Code} {Q : State → Prop} {b L : Nat} {xs : Nat → Int32} {D : va_G} {dA : Nat → ClassId} {a1 a2 i cells slots : Nat} {ls : Array Slot} {w : cWld} {H : Heap} {locs : List Loc} (C : k_Cx p s m c b L xs D dA) (I : k_In s D dA a1 a2 w H locs ∧ k_R a1 a2 w) (hl : lv_has ls 4 (k_lv b a1 a2 i)) (hi : i + 7 ≤ L) (hcb : cells + 26 ≤ 600000) (hsb : slots + 1584 ≤ 7302250)
    (kk : ∀ (w : cWld) (H : Heap) (locs : List Loc), k_In s D dA a1 a2 w H locs ∧ k_R a1 a2 w → W p l e room_1 s m #[Value.ref b] below meth c H locs (cells + 26) (slots + 1584) Q (F0 m 1989 ls [])) : W p l e room_1 s m #[Value.ref b] below meth c H locs cells slots Q (F0 m 1037 ls []) := by
  have hc0 : cells ≤ 600000 := by omega
  have hs0 : slots ≤ 7302250 := by omega
  have hc1 := hcb
  have hs1 := hsb
  obtain ⟨I, hR⟩ := I
  refine lv_aload_n C.1 C.2.1 k_L1037 rfl (lv_at hl 1 rfl) ?_
  refine k_arg C I hl (k := 1) (by omega) k_L1038 k_L1039 k_L1040 (by decide) k_L1041 k_L1042 ?_
  refine k_arg C I hl (k := 2) (by omega) k_L1043 k_L1044 k_L1045 (by decide) k_L1046 k_L1047 ?_
  refine k_arg C I hl (k := 3) (by omega) k_L1048 k_L1049 k_L1050 (by decide) k_L1051 k_L1052 ?_
  refine k_pub C I (a := 154) (idx := 114) (M := k_M154) (ct := k_c154_0) rfl k_pm154_0 rfl (k_in 5 9 rfl rfl) (by decide +kernel) (x := a1) (As := [.int (xs (i + 1)), .int (xs (i + 2)), .int (xs (i + 3))]) (rest := []) [(a1 : Int), ((xs (i + 1))).toInt, ((xs (i + 2))).toInt, ((xs (i + 3))).toInt] (k_preC 0 rfl (by decide +kernel) ⟨k_aR I.2.2.2.2.1, k_aI _, k_aI _, k_aI _, trivial⟩ trivial) (Nat.le_of_ble_eq_true rfl) k_L1053 hc0 hs0 hl.1 (fun rv1 rs1 w1 H1 lo1 hv1 hp1 I1 => ?_)
  obtain ⟨r1, rfl, rfl⟩ := hv1
  have hR := k_RK hp1.1 (by decide +kernel) (by decide +kernel) hR
  refine lv_pop C.1 C.2.1 k_L1056 rfl ?_
  refine lv_aload_n C.1 C.2.1 k_L1057 rfl (lv_at hl 2 rfl) ?_
  refine k_arg C I1 hl (k := 1) (by omega) k_L1058 k_L1059 k_L1060 (by decide) k_L1061 k_L1062 ?_
  refine k_arg C I1 hl (k := 2) (by omega) k_L1063 k_L1064 k_L1065 (by decide) k_L1066 k_L1067 ?_
  refine k_arg C I1 hl (k := 3) (by omega) k_L1068 k_L1069 k_L1070 (by decide) k_L1071 k_L1072 ?_
  refine k_pub C I1 (a := 276) (idx := 118) (M := k_M276) (ct := k_c276_0) rfl k_pm276_0 rfl (k_in 9 45 rfl rfl) (by decide +kernel) (x := a2) (As := [.int (xs (i + 1)), .int (xs (i + 2)), .int (xs (i + 3))]) (rest := []) [(a2 : Int), ((xs (i + 1))).toInt, ((xs (i + 2))).toInt, ((xs (i + 3))).toInt] (k_preC 0 rfl (by decide +kernel) ⟨k_aR I1.2.2.2.2.2.1, k_aI _, k_aI _, k_aI _, trivial⟩ trivial) (Nat.le_of_ble_eq_true rfl) k_L1073 hc0 hs0 hl.1 (fun rv2 rs2 w2 H2 lo2 hv2 hp2 I2 => ?_)
  obtain ⟨r2, rfl, rfl⟩ := hv2
  have hR := k_RK hp2.1 (by decide +kernel) (by decide +kernel) hR
  refine lv_pop C.1 C.2.1 k_L1076 rfl ?_
  refine lv_goto C.1 C.2.1 k_L1077 (tgt := 1989) (by decide) ?_
  exact W.widen (Nat.le_add_right _ _) (Nat.le_add_right _ _) (kk _ _ _ ⟨I2, hR⟩)
theorem k_case22 {p : Program} {l : Launch} {e : Env} {s : State} {m : MethodId} {below : List Frame} {meth : Method} {c : Code} {Q : State → Prop} {b L : Nat} {xs : Nat → Int32} {D : va_G} {dA : Nat → ClassId} {a1 a2 i cells slots : Nat} {ls : Array Slot} {w : cWld} {H : Heap} {locs : List Loc} (C : k_Cx p s m c b L xs D dA) (I : k_In s D dA a1 a2 w H locs ∧ k_R a1 a2 w) (hl : lv_has ls 4 (k_lv b a1 a2 i)) (hi : i + 7 ≤ L) (hcb : cells + 26 ≤ 600000) (hsb : slots + 1584 ≤ 7302250)
    (kk : ∀ (w : cWld) (H : Heap) (locs : List Loc), k_In s D dA a1 a2 w H locs ∧ k_R a1 a2 w → W p l e room_1 s m #[Value.ref b] below meth c H locs (cells + 26) (slots + 1584) Q (F0 m 1989 ls [])) : W p l e room_1 s m #[Value.ref b] below meth c H locs cells slots Q (F0 m 1080 ls []) := by
  have hc0 : cells ≤ 600000 := by omega
  have hs0 : slots ≤ 7302250 := by omega
  have hc1 := hcb
  have hs1 := hsb
  obtain ⟨I, hR⟩ := I
  refine lv_aload_n C.1 C.2.1 k_L1080 rfl (lv_at hl 1 rfl) ?_
  refine k_arg C I hl (k := 1) (by omega) k_L1081 k_L1082 k_L1083 (by decide) k_L1084 k_L1085 ?_
  refine k_arg C I hl (k := 2) (by omega) k_L1086 k_L1087 k_L1088 (by decide) k_L1089 k_L1090 ?_
  refine k_arg C I hl (k := 3) (by omega) k_L1091 k_L1092 k_L1093 (by decide) k_L1094 k_L1095 ?_
  refine k_pub C I (a := 155) (idx := 119) (M := k_M155) (ct := k_c155_0) rfl k_pm155_0 rfl (k_in 5 32 rfl rfl) (by decide +kernel) (x := a1) (As := [.int (xs (i + 1)), .int (xs (i + 2)), .int (xs (i + 3))]) (rest := []) [(a1 : Int), ((xs (i + 1))).toInt, ((xs (i + 2))).toInt, ((xs (i + 3))).toInt] (k_preC 0 rfl (by decide +kernel) ⟨k_aR I.2.2.2.2.1, k_aI _, k_aI _, k_aI _, trivial⟩ trivial) (Nat.le_of_ble_eq_true rfl) k_L1096 hc0 hs0 hl.1 (fun rv1 rs1 w1 H1 lo1 hv1 hp1 I1 => ?_)
  obtain ⟨r1, rfl, rfl, -, -⟩ := hv1
  have hR := k_RK hp1.1 (by decide +kernel) (by decide +kernel) hR
  refine lv_pop C.1 C.2.1 k_L1099 rfl ?_
  refine lv_aload_n C.1 C.2.1 k_L1100 rfl (lv_at hl 2 rfl) ?_
  refine k_arg C I1 hl (k := 1) (by omega) k_L1101 k_L1102 k_L1103 (by decide) k_L1104 k_L1105 ?_
  refine k_arg C I1 hl (k := 2) (by omega) k_L1106 k_L1107 k_L1108 (by decide) k_L1109 k_L1110 ?_
  refine k_arg C I1 hl (k := 3) (by omega) k_L1111 k_L1112 k_L1113 (by decide) k_L1114 k_L1115 ?_
  refine k_pub C I1 (a := 277) (idx := 122) (M := k_M277) (ct := k_c277_0) rfl k_pm277_0 rfl (k_in 9 65 rfl rfl) (by decide +kernel) (x := a2) (As := [.int (xs (i + 1)), .int (xs (i + 2)), .int (xs (i + 3))]) (rest := []) [(a2 : Int), ((xs (i + 1))).toInt, ((xs (i + 2))).toInt, ((xs (i + 3))).toInt] (k_preC 0 rfl (by decide +kernel) ⟨k_aR I1.2.2.2.2.2.1, k_aI _, k_aI _, k_aI _, trivial⟩ trivial) (Nat.le_of_ble_eq_true rfl) k_L1116 hc0 hs0 hl.1 (fun rv2 rs2 w2 H2 lo2 hv2 hp2 I2 => ?_)
  obtain ⟨r2, rfl, rfl, -, -⟩ := hv2
  have hR := k_RK hp2.1 (by decide +kernel) (by decide +kernel) hR
  refine lv_pop C.1 C.2.1 k_L1119 rfl ?_
  refine lv_goto C.1 C.2.1 k_L1120 (tgt := 1989) (by decide) ?_
  exact W.widen (Nat.le_add_right _ _) (Nat.le_add_right _ _) (kk _ _ _ ⟨I2, hR⟩)
theorem k_case23 {p : Program} {l : Launch} {e : Env} {s : State} {m : MethodId} {below : List Frame} {meth : Method} {c : Code} {Q : State → Prop} {b L : Nat} {xs : Nat → Int32} {D : va_G} {dA : Nat → ClassId} {a1 a2 i cells slots : Nat} {ls : Array Slot} {w : cWld} {H : Heap} {locs : List Loc} (C : k_Cx p s m c b L xs D dA) (I : k_In s D dA a1 a2 w H locs ∧ k_R a1 a2 w) (hl : lv_has ls 4 (k_lv b a1 a2 i)) (hi : i + 7 ≤ L) (hcb : cells + 26 ≤ 600000) (hsb : slots + 1584 ≤ 7302250)
    (kk : ∀ (w : cWld) (H : Heap) (locs : List Loc), k_In s D dA a1 a2 w H locs ∧ k_R a1 a2 w → W p l e room_1 s m #[Value.ref b] below meth c H locs (cells + 26) (slots + 1584) Q (F0 m 1989 ls [])) : W p l e room_1 s m #[Value.ref b] below meth c H locs cells slots Q (F0 m 1123 ls []) := by
  have hc0 : cells ≤ 600000 := by omega
  have hs0 : slots ≤ 7302250 := by omega
  have hc1 := hcb
  have hs1 := hsb
  obtain ⟨I, hR⟩ := I
  refine lv_aload_n C.1 C.2.1 k_L1123 rfl (lv_at hl 1 rfl) ?_
  refine k_arg C I hl (k := 1) (by omega) k_L1124 k_L1125 k_L1126 (by decide) k_L1127 k_L1128 ?_
  refine k_pub C I (a := 157) (idx := 123) (M := k_M157) (ct := k_c157_0) rfl k_pm157_0 rfl (k_in 5 51 rfl rfl) (by decide +kernel) (x := a1) (As := [.int (xs (i + 1))]) (rest := []) [(a1 : Int), ((xs (i + 1))).toInt] (k_preC 0 rfl (by decide +kernel) ⟨k_aR I.2.2.2.2.1, k_aI _, trivial⟩ trivial) (Nat.le_of_ble_eq_true rfl) k_L1129 hc0 hs0 hl.1 (fun rv1 rs1 w1 H1 lo1 hv1 hp1 I1 => ?_)
  obtain ⟨r1, rfl, rfl, -, -⟩ := hv1
  have hR := k_RK hp1.1 (by decide +kernel) (by decide +kernel) hR
  refine lv_pop C.1 C.2.1 k_L1132 rfl ?_
  refine lv_aload_n C.1 C.2.1 k_L1133 rfl (lv_at hl 2 rfl) ?_
  refine k_arg C I1 hl (k := 1) (by omega) k_L1134 k_L1135 k_L1136 (by decide) k_L1137 k_L1138 ?_
  refine k_pub C I1 (a := 285) (idx := 126) (M := k_M285) (ct := k_c285_0) rfl k_pm285_0 rfl (k_in 9 77 rfl rfl) (by decide +kernel) (x := a2) (As := [.int (xs (i + 1))]) (rest := []) [(a2 : Int), ((xs (i + 1))).toInt] (k_preC 0 rfl (by decide +kernel) ⟨k_aR I1.2.2.2.2.2.1, k_aI _, trivial⟩ trivial) (Nat.le_of_ble_eq_true rfl) k_L1139 hc0 hs0 hl.1 (fun rv2 rs2 w2 H2 lo2 hv2 hp2 I2 => ?_)
  obtain ⟨r2, rfl, rfl, -, -⟩ := hv2
  have hR := k_RK hp2.1 (by decide +kernel) (by decide +kernel) hR
  refine lv_pop C.1 C.2.1 k_L1142 rfl ?_
  refine lv_goto C.1 C.2.1 k_L1143 (tgt := 1989) (by decide) ?_
  exact W.widen (Nat.le_add_right _ _) (Nat.le_add_right _ _) (kk _ _ _ ⟨I2, hR⟩)
theorem k_case24 {p : Program} {l : Launch} {e : Env} {s : State} {m : MethodId} {below : List Frame} {meth : Method} {c : Code} {Q : State → Prop} {b L : Nat} {xs : Nat → Int32} {D : va_G} {dA : Nat → ClassId} {a1 a2 i cells slots : Nat} {ls : Array Slot} {w : cWld} {H : Heap} {locs : List Loc} (C : k_Cx p s m c b L xs D dA) (I : k_In s D dA a1 a2 w H locs ∧ k_R a1 a2 w) (hl : lv_has ls 4 (k_lv b a1 a2 i)) (hi : i + 7 ≤ L) (hcb : cells + 26 ≤ 600000) (hsb : slots + 1584 ≤ 7302250)
    (kk : ∀ (w : cWld) (H : Heap) (locs : List Loc), k_In s D dA a1 a2 w H locs ∧ k_R a1 a2 w → W p l e room_1 s m #[Value.ref b] below meth c H locs (cells + 26) (slots + 1584) Q (F0 m 1989 ls [])) : W p l e room_1 s m #[Value.ref b] below meth c H locs cells slots Q (F0 m 1146 ls []) := by
  have hc0 : cells ≤ 600000 := by omega
  have hs0 : slots ≤ 7302250 := by omega
  have hc1 := hcb
  have hs1 := hsb
  obtain ⟨I, hR⟩ := I
  refine lv_aload_n C.1 C.2.1 k_L1146 rfl (lv_at hl 1 rfl) ?_
  refine k_arg C I hl (k := 1) (by omega) k_L1147 k_L1148 k_L1149 (by decide) k_L1150 k_L1151 ?_
  refine k_pub C I (a := 160) (idx := 127) (M := k_M160) (ct := k_c160_0) rfl k_pm160_0 rfl (k_in 5 99 rfl rfl) (by decide +kernel) (x := a1) (As := [.int (xs (i + 1))]) (rest := []) [(a1 : Int), ((xs (i + 1))).toInt] (k_preC 0 rfl (by decide +kernel) ⟨k_aR I.2.2.2.2.1, k_aI _, trivial⟩ trivial) (Nat.le_of_ble_eq_true rfl) k_L1152 hc0 hs0 hl.1 (fun rv1 rs1 w1 H1 lo1 hv1 hp1 I1 => ?_)
  obtain ⟨r1, rfl, rfl⟩ := hv1
  have hR := k_RK hp1.1 (by decide +kernel) (by decide +kernel) hR
  refine lv_pop C.1 C.2.1 k_L1155 rfl ?_
  refine lv_aload_n C.1 C.2.1 k_L1156 rfl (lv_at hl 2 rfl) ?_
  refine k_arg C I1 hl (k := 1) (by omega) k_L1157 k_L1158 k_L1159 (by decide) k_L1160 k_L1161 ?_
  refine k_pub C I1 (a := 287) (idx := 130) (M := k_M287) (ct := k_c287_0) rfl k_pm287_0 rfl (k_in 9 105 rfl rfl) (by decide +kernel) (x := a2) (As := [.int (xs (i + 1))]) (rest := []) [(a2 : Int), ((xs (i + 1))).toInt] (k_preC 0 rfl (by decide +kernel) ⟨k_aR I1.2.2.2.2.2.1, k_aI _, trivial⟩ trivial) (Nat.le_of_ble_eq_true rfl) k_L1162 hc0 hs0 hl.1 (fun rv2 rs2 w2 H2 lo2 hv2 hp2 I2 => ?_)
  obtain ⟨r2, rfl, rfl⟩ := hv2
  have hR := k_RK hp2.1 (by decide +kernel) (by decide +kernel) hR
  refine lv_pop C.1 C.2.1 k_L1165 rfl ?_
  refine lv_goto C.1 C.2.1 k_L1166 (tgt := 1989) (by decide) ?_
  exact W.widen (Nat.le_add_right _ _) (Nat.le_add_right _ _) (kk _ _ _ ⟨I2, hR⟩)
theorem k_case25 {p : Program} {l : Launch} {e : Env} {s : State} {m : MethodId} {below : List Frame} {meth : Method} {c : Code} {Q : State → Prop} {b L : Nat} {xs : Nat → Int32} {D : va_G} {dA : Nat → ClassId} {a1 a2 i cells slots : Nat} {ls : Array Slot} {w : cWld} {H : Heap} {locs : List Loc} (C : k_Cx p s m c b L xs D dA) (I : k_In s D dA a1 a2 w H locs ∧ k_R a1 a2 w) (hl : lv_has ls 4 (k_lv b a1 a2 i)) (hi : i + 7 ≤ L) (hcb : cells + 26 ≤ 600000) (hsb : slots + 1584 ≤ 7302250)
    (kk : ∀ (w : cWld) (H : Heap) (locs : List Loc), k_In s D dA a1 a2 w H locs ∧ k_R a1 a2 w → W p l e room_1 s m #[Value.ref b] below meth c H locs (cells + 26) (slots + 1584) Q (F0 m 1989 ls [])) : W p l e room_1 s m #[Value.ref b] below meth c H locs cells slots Q (F0 m 1169 ls []) := by
  have hc0 : cells ≤ 600000 := by omega
  have hs0 : slots ≤ 7302250 := by omega
  have hc1 := hcb
  have hs1 := hsb
  obtain ⟨I, hR⟩ := I
  refine lv_aload_n C.1 C.2.1 k_L1169 rfl (lv_at hl 1 rfl) ?_
  refine k_arg C I hl (k := 1) (by omega) k_L1170 k_L1171 k_L1172 (by decide) k_L1173 k_L1174 ?_
  refine k_pub C I (a := 161) (idx := 131) (M := k_M161) (ct := k_c161_0) rfl k_pm161_0 rfl (k_in 5 125 rfl rfl) (by decide +kernel) (x := a1) (As := [.int (xs (i + 1))]) (rest := []) [(a1 : Int), ((xs (i + 1))).toInt] (k_preC 0 rfl (by decide +kernel) ⟨k_aR I.2.2.2.2.1, k_aI _, trivial⟩ trivial) (Nat.le_of_ble_eq_true rfl) k_L1175 hc0 hs0 hl.1 (fun rv1 rs1 w1 H1 lo1 hv1 hp1 I1 => ?_)
  obtain ⟨r1, rfl, rfl, -, -⟩ := hv1
  have hR := k_RK hp1.1 (by decide +kernel) (by decide +kernel) hR
  refine lv_pop C.1 C.2.1 k_L1178 rfl ?_
  refine lv_aload_n C.1 C.2.1 k_L1179 rfl (lv_at hl 2 rfl) ?_
  refine k_arg C I1 hl (k := 1) (by omega) k_L1180 k_L1181 k_L1182 (by decide) k_L1183 k_L1184 ?_
  refine k_pub C I1 (a := 288) (idx := 134) (M := k_M288) (ct := k_c288_0) rfl k_pm288_0 rfl (k_in 9 117 rfl rfl) (by decide +kernel) (x := a2) (As := [.int (xs (i + 1))]) (rest := []) [(a2 : Int), ((xs (i + 1))).toInt] (k_preC 0 rfl (by decide +kernel) ⟨k_aR I1.2.2.2.2.2.1, k_aI _, trivial⟩ trivial) (Nat.le_of_ble_eq_true rfl) k_L1185 hc0 hs0 hl.1 (fun rv2 rs2 w2 H2 lo2 hv2 hp2 I2 => ?_)
  obtain ⟨r2, rfl, rfl, -, -⟩ := hv2
  have hR := k_RK hp2.1 (by decide +kernel) (by decide +kernel) hR
  refine lv_pop C.1 C.2.1 k_L1188 rfl ?_
  refine lv_goto C.1 C.2.1 k_L1189 (tgt := 1989) (by decide) ?_
  exact W.widen (Nat.le_add_right _ _) (Nat.le_add_right _ _) (kk _ _ _ ⟨I2, hR⟩)
theorem k_case26 {p : Program} {l : Launch} {e : Env} {s : State} {m : MethodId} {below : List Frame} {meth : Method} {c : Code} {Q : State → Prop} {b L : Nat} {xs : Nat → Int32} {D : va_G} {dA : Nat → ClassId} {a1 a2 i cells slots : Nat} {ls : Array Slot} {w : cWld} {H : Heap} {locs : List Loc} (C : k_Cx p s m c b L xs D dA) (I : k_In s D dA a1 a2 w H locs ∧ k_R a1 a2 w) (hl : lv_has ls 4 (k_lv b a1 a2 i)) (hi : i + 7 ≤ L) (hcb : cells + 26 ≤ 600000) (hsb : slots + 1584 ≤ 7302250)
    (kk : ∀ (w : cWld) (H : Heap) (locs : List Loc), k_In s D dA a1 a2 w H locs ∧ k_R a1 a2 w → W p l e room_1 s m #[Value.ref b] below meth c H locs (cells + 26) (slots + 1584) Q (F0 m 1989 ls [])) : W p l e room_1 s m #[Value.ref b] below meth c H locs cells slots Q (F0 m 1192 ls []) := by
  have hc0 : cells ≤ 600000 := by omega
  have hs0 : slots ≤ 7302250 := by omega
  have hc1 := hcb
  have hs1 := hsb
  obtain ⟨I, hR⟩ := I
  refine lv_aload_n C.1 C.2.1 k_L1192 rfl (lv_at hl 1 rfl) ?_
  refine k_arg C I hl (k := 1) (by omega) k_L1193 k_L1194 k_L1195 (by decide) k_L1196 k_L1197 ?_
  refine k_arg C I hl (k := 2) (by omega) k_L1198 k_L1199 k_L1200 (by decide) k_L1201 k_L1202 ?_
  refine k_pub C I (a := 162) (idx := 135) (M := k_M162) (ct := k_c162_0) rfl k_pm162_0 rfl (k_in 5 129 rfl rfl) (by decide +kernel) (x := a1) (As := [.int (xs (i + 1)), .int (xs (i + 2))]) (rest := []) [(a1 : Int), ((xs (i + 1))).toInt, ((xs (i + 2))).toInt] (k_preC 0 rfl (by decide +kernel) ⟨k_aR I.2.2.2.2.1, k_aI _, k_aI _, trivial⟩ trivial) (Nat.le_of_ble_eq_true rfl) k_L1203 hc0 hs0 hl.1 (fun rv1 rs1 w1 H1 lo1 hv1 hp1 I1 => ?_)
  obtain ⟨r1, rfl, rfl⟩ := hv1
  have hR := k_RK hp1.1 (by decide +kernel) (by decide +kernel) hR
  refine lv_pop2_2 C.1 C.2.1 k_L1206 rfl ?_
  refine lv_aload_n C.1 C.2.1 k_L1207 rfl (lv_at hl 2 rfl) ?_
  refine k_arg C I1 hl (k := 1) (by omega) k_L1208 k_L1209 k_L1210 (by decide) k_L1211 k_L1212 ?_
  refine k_arg C I1 hl (k := 2) (by omega) k_L1213 k_L1214 k_L1215 (by decide) k_L1216 k_L1217 ?_
  refine k_pub C I1 (a := 291) (idx := 138) (M := k_M291) (ct := k_c291_0) rfl k_pm291_0 rfl (k_in 9 121 rfl rfl) (by decide +kernel) (x := a2) (As := [.int (xs (i + 1)), .int (xs (i + 2))]) (rest := []) [(a2 : Int), ((xs (i + 1))).toInt, ((xs (i + 2))).toInt, 0] (k_preC 4 rfl (by decide +kernel) ⟨k_aR I1.2.2.2.2.2.1, k_aI _, k_aI _, trivial⟩ ⟨k_ghc I1.2.2.2.2.2.2 rfl, trivial⟩) (Nat.le_of_ble_eq_true rfl) k_L1218 hc0 hs0 hl.1 (fun rv2 rs2 w2 H2 lo2 hv2 hp2 I2 => ?_)
  obtain ⟨r2, rfl, rfl⟩ := hv2
  have hR := k_RK hp2.1 (by decide +kernel) (by decide +kernel) hR
  refine lv_pop2_2 C.1 C.2.1 k_L1221 rfl ?_
  refine lv_goto C.1 C.2.1 k_L1222 (tgt := 1989) (by decide) ?_
  exact W.widen (Nat.le_add_right _ _) (Nat.le_add_right _ _) (kk _ _ _ ⟨I2, hR⟩)
theorem k_case27 {p : Program} {l : Launch} {e : Env} {s : State} {m : MethodId} {below : List Frame} {meth : Method} {c : Code} {Q : State → Prop} {b L : Nat} {xs : Nat → Int32} {D : va_G} {dA : Nat → ClassId} {a1 a2 i cells slots : Nat} {ls : Array Slot} {w : cWld} {H : Heap} {locs : List Loc} (C : k_Cx p s m c b L xs D dA) (I : k_In s D dA a1 a2 w H locs ∧ k_R a1 a2 w) (hl : lv_has ls 4 (k_lv b a1 a2 i)) (hi : i + 7 ≤ L) (hcb : cells + 26 ≤ 600000) (hsb : slots + 1584 ≤ 7302250)
    (kk : ∀ (w : cWld) (H : Heap) (locs : List Loc), k_In s D dA a1 a2 w H locs ∧ k_R a1 a2 w → W p l e room_1 s m #[Value.ref b] below meth c H locs (cells + 26) (slots + 1584) Q (F0 m 1989 ls [])) : W p l e room_1 s m #[Value.ref b] below meth c H locs cells slots Q (F0 m 1225 ls []) := by
  have hc0 : cells ≤ 600000 := by omega
  have hs0 : slots ≤ 7302250 := by omega
  have hc1 := hcb
  have hs1 := hsb
  obtain ⟨I, hR⟩ := I
  refine lv_aload_n C.1 C.2.1 k_L1225 rfl (lv_at hl 1 rfl) ?_
  refine k_arg C I hl (k := 1) (by omega) k_L1226 k_L1227 k_L1228 (by decide) k_L1229 k_L1230 ?_
  refine k_pub C I (a := 163) (idx := 139) (M := k_M163) (ct := k_c163_0) rfl k_pm163_0 rfl (k_in 5 164 rfl rfl) (by decide +kernel) (x := a1) (As := [.int (xs (i + 1))]) (rest := []) [(a1 : Int), ((xs (i + 1))).toInt] (k_preC 0 rfl (by decide +kernel) ⟨k_aR I.2.2.2.2.1, k_aI _, trivial⟩ trivial) (Nat.le_of_ble_eq_true rfl) k_L1231 hc0 hs0 hl.1 (fun rv1 rs1 w1 H1 lo1 hv1 hp1 I1 => ?_)
  obtain ⟨r1, rfl, rfl⟩ := hv1
  have hR := k_RK hp1.1 (by decide +kernel) (by decide +kernel) hR
  refine lv_pop C.1 C.2.1 k_L1234 rfl ?_
  refine lv_aload_n C.1 C.2.1 k_L1235 rfl (lv_at hl 2 rfl) ?_
  refine k_arg C I1 hl (k := 1) (by omega) k_L1236 k_L1237 k_L1238 (by decide) k_L1239 k_L1240 ?_
  refine k_pub C I1 (a := 292) (idx := 142) (M := k_M292) (ct := k_c292_0) rfl k_pm292_0 rfl (k_in 9 135 rfl rfl) (by decide +kernel) (x := a2) (As := [.int (xs (i + 1))]) (rest := []) [(a2 : Int), ((xs (i + 1))).toInt] (k_preC 0 rfl (by decide +kernel) ⟨k_aR I1.2.2.2.2.2.1, k_aI _, trivial⟩ trivial) (Nat.le_of_ble_eq_true rfl) k_L1241 hc0 hs0 hl.1 (fun rv2 rs2 w2 H2 lo2 hv2 hp2 I2 => ?_)
  obtain ⟨r2, rfl, rfl⟩ := hv2
  have hR := k_RK hp2.1 (by decide +kernel) (by decide +kernel) hR
  refine lv_pop C.1 C.2.1 k_L1244 rfl ?_
  refine lv_goto C.1 C.2.1 k_L1245 (tgt := 1989) (by decide) ?_
  exact W.widen (Nat.le_add_right _ _) (Nat.le_add_right _ _) (kk _ _ _ ⟨I2, hR⟩)
theorem k_case28 {p : Program} {l : Launch} {e : Env} {s : State} {m : MethodId} {below : List Frame} {meth : Method} {c : Code} {Q : State → Prop} {b L : Nat} {xs : Nat → Int32} {D : va_G} {dA : Nat → ClassId} {a1 a2 i cells slots : Nat} {ls : Array Slot} {w : cWld} {H : Heap} {locs : List Loc} (C : k_Cx p s m c b L xs D dA) (I : k_In s D dA a1 a2 w H locs ∧ k_R a1 a2 w) (hl : lv_has ls 4 (k_lv b a1 a2 i)) (hi : i + 7 ≤ L) (hcb : cells + 26 ≤ 600000) (hsb : slots + 1584 ≤ 7302250)
    (kk : ∀ (w : cWld) (H : Heap) (locs : List Loc), k_In s D dA a1 a2 w H locs ∧ k_R a1 a2 w → W p l e room_1 s m #[Value.ref b] below meth c H locs (cells + 26) (slots + 1584) Q (F0 m 1989 ls [])) : W p l e room_1 s m #[Value.ref b] below meth c H locs cells slots Q (F0 m 1248 ls []) := by
  have hc0 : cells ≤ 600000 := by omega
  have hs0 : slots ≤ 7302250 := by omega
  have hc1 := hcb
  have hs1 := hsb
  obtain ⟨I, hR⟩ := I
  refine lv_aload_n C.1 C.2.1 k_L1248 rfl (lv_at hl 1 rfl) ?_
  refine k_arg C I hl (k := 1) (by omega) k_L1249 k_L1250 k_L1251 (by decide) k_L1252 k_L1253 ?_
  refine k_pub C I (a := 164) (idx := 143) (M := k_M164) (ct := k_c164_0) rfl k_pm164_0 rfl (k_in 5 168 rfl rfl) (by decide +kernel) (x := a1) (As := [.int (xs (i + 1))]) (rest := []) [(a1 : Int), ((xs (i + 1))).toInt] (k_preC 0 rfl (by decide +kernel) ⟨k_aR I.2.2.2.2.1, k_aI _, trivial⟩ trivial) (Nat.le_of_ble_eq_true rfl) k_L1254 hc0 hs0 hl.1 (fun rv1 rs1 w1 H1 lo1 hv1 hp1 I1 => ?_)
  obtain ⟨r1, rfl, rfl, -, -⟩ := hv1
  have hR := k_RK hp1.1 (by decide +kernel) (by decide +kernel) hR
  refine lv_pop C.1 C.2.1 k_L1257 rfl ?_
  refine lv_aload_n C.1 C.2.1 k_L1258 rfl (lv_at hl 2 rfl) ?_
  refine k_arg C I1 hl (k := 1) (by omega) k_L1259 k_L1260 k_L1261 (by decide) k_L1262 k_L1263 ?_
  refine k_pub C I1 (a := 293) (idx := 146) (M := k_M293) (ct := k_c293_0) rfl k_pm293_0 rfl (k_in 9 139 rfl rfl) (by decide +kernel) (x := a2) (As := [.int (xs (i + 1))]) (rest := []) [(a2 : Int), ((xs (i + 1))).toInt] (k_preC 0 rfl (by decide +kernel) ⟨k_aR I1.2.2.2.2.2.1, k_aI _, trivial⟩ trivial) (Nat.le_of_ble_eq_true rfl) k_L1264 hc0 hs0 hl.1 (fun rv2 rs2 w2 H2 lo2 hv2 hp2 I2 => ?_)
  obtain ⟨r2, rfl, rfl, -, -⟩ := hv2
  have hR := k_RK hp2.1 (by decide +kernel) (by decide +kernel) hR
  refine lv_pop C.1 C.2.1 k_L1267 rfl ?_
  refine lv_goto C.1 C.2.1 k_L1268 (tgt := 1989) (by decide) ?_
  exact W.widen (Nat.le_add_right _ _) (Nat.le_add_right _ _) (kk _ _ _ ⟨I2, hR⟩)
theorem k_case29 {p : Program} {l : Launch} {e : Env} {s : State} {m : MethodId} {below : List Frame} {meth : Method} {c : Code} {Q : State → Prop} {b L : Nat} {xs : Nat → Int32} {D : va_G} {dA : Nat → ClassId} {a1 a2 i cells slots : Nat} {ls : Array Slot} {w : cWld} {H : Heap} {locs : List Loc} (C : k_Cx p s m c b L xs D dA) (I : k_In s D dA a1 a2 w H locs ∧ k_R a1 a2 w) (hl : lv_has ls 4 (k_lv b a1 a2 i)) (hi : i + 7 ≤ L) (hcb : cells + 26 ≤ 600000) (hsb : slots + 1584 ≤ 7302250)
    (kk : ∀ (w : cWld) (H : Heap) (locs : List Loc), k_In s D dA a1 a2 w H locs ∧ k_R a1 a2 w → W p l e room_1 s m #[Value.ref b] below meth c H locs (cells + 26) (slots + 1584) Q (F0 m 1989 ls [])) : W p l e room_1 s m #[Value.ref b] below meth c H locs cells slots Q (F0 m 1271 ls []) := by
  have hc0 : cells ≤ 600000 := by omega
  have hs0 : slots ≤ 7302250 := by omega
  have hc1 := hcb
  have hs1 := hsb
  obtain ⟨I, hR⟩ := I
  refine lv_aload_n C.1 C.2.1 k_L1271 rfl (lv_at hl 1 rfl) ?_
  refine k_arg C I hl (k := 1) (by omega) k_L1272 k_L1273 k_L1274 (by decide) k_L1275 k_L1276 ?_
  refine k_arg C I hl (k := 2) (by omega) k_L1277 k_L1278 k_L1279 (by decide) k_L1280 k_L1281 ?_
  refine k_arg C I hl (k := 3) (by omega) k_L1282 k_L1283 k_L1284 (by decide) k_L1285 k_L1286 ?_
  refine k_pub C I (a := 165) (idx := 147) (M := k_M165) (ct := k_c165_0) rfl k_pm165_0 rfl (k_in 5 177 rfl rfl) (by decide +kernel) (x := a1) (As := [.int (xs (i + 1)), .int (xs (i + 2)), .int (xs (i + 3))]) (rest := []) [(a1 : Int), ((xs (i + 1))).toInt, ((xs (i + 2))).toInt, ((xs (i + 3))).toInt] (k_preC 0 rfl (by decide +kernel) ⟨k_aR I.2.2.2.2.1, k_aI _, k_aI _, k_aI _, trivial⟩ trivial) (Nat.le_of_ble_eq_true rfl) k_L1287 hc0 hs0 hl.1 (fun rv1 rs1 w1 H1 lo1 hv1 hp1 I1 => ?_)
  obtain ⟨r1, rfl, rfl⟩ := hv1
  have hR := k_RK hp1.1 (by decide +kernel) (by decide +kernel) hR
  refine lv_pop C.1 C.2.1 k_L1290 rfl ?_
  refine lv_aload_n C.1 C.2.1 k_L1291 rfl (lv_at hl 2 rfl) ?_
  refine k_arg C I1 hl (k := 1) (by omega) k_L1292 k_L1293 k_L1294 (by decide) k_L1295 k_L1296 ?_
  refine k_arg C I1 hl (k := 2) (by omega) k_L1297 k_L1298 k_L1299 (by decide) k_L1300 k_L1301 ?_
  refine k_arg C I1 hl (k := 3) (by omega) k_L1302 k_L1303 k_L1304 (by decide) k_L1305 k_L1306 ?_
  refine k_pub C I1 (a := 295) (idx := 150) (M := k_M295) (ct := k_c295_0) rfl k_pm295_0 rfl (k_in 9 143 rfl rfl) (by decide +kernel) (x := a2) (As := [.int (xs (i + 1)), .int (xs (i + 2)), .int (xs (i + 3))]) (rest := []) [(a2 : Int), ((xs (i + 1))).toInt, ((xs (i + 2))).toInt, ((xs (i + 3))).toInt] (k_preC 0 rfl (by decide +kernel) ⟨k_aR I1.2.2.2.2.2.1, k_aI _, k_aI _, k_aI _, trivial⟩ trivial) (Nat.le_of_ble_eq_true rfl) k_L1307 hc0 hs0 hl.1 (fun rv2 rs2 w2 H2 lo2 hv2 hp2 I2 => ?_)
  obtain ⟨r2, rfl, rfl⟩ := hv2
  have hR := k_RK hp2.1 (by decide +kernel) (by decide +kernel) hR
  refine lv_pop C.1 C.2.1 k_L1310 rfl ?_
  refine lv_goto C.1 C.2.1 k_L1311 (tgt := 1989) (by decide) ?_
  exact W.widen (Nat.le_add_right _ _) (Nat.le_add_right _ _) (kk _ _ _ ⟨I2, hR⟩)
theorem k_case30 {p : Program} {l : Launch} {e : Env} {s : State} {m : MethodId} {below : List Frame} {meth : Method} {c : Code} {Q : State → Prop} {b L : Nat} {xs : Nat → Int32} {D : va_G} {dA : Nat → ClassId} {a1 a2 i cells slots : Nat} {ls : Array Slot} {w : cWld} {H : Heap} {locs : List Loc} (C : k_Cx p s m c b L xs D dA) (I : k_In s D dA a1 a2 w H locs ∧ k_R a1 a2 w) (hl : lv_has ls 4 (k_lv b a1 a2 i)) (hi : i + 7 ≤ L) (hcb : cells + 26 ≤ 600000) (hsb : slots + 1584 ≤ 7302250)
    (kk : ∀ (w : cWld) (H : Heap) (locs : List Loc), k_In s D dA a1 a2 w H locs ∧ k_R a1 a2 w → W p l e room_1 s m #[Value.ref b] below meth c H locs (cells + 26) (slots + 1584) Q (F0 m 1989 ls [])) : W p l e room_1 s m #[Value.ref b] below meth c H locs cells slots Q (F0 m 1314 ls []) := by
  have hc0 : cells ≤ 600000 := by omega
  have hs0 : slots ≤ 7302250 := by omega
  have hc1 := hcb
  have hs1 := hsb
  obtain ⟨I, hR⟩ := I
  refine lv_aload_n C.1 C.2.1 k_L1314 rfl (lv_at hl 1 rfl) ?_
  refine k_arg C I hl (k := 1) (by omega) k_L1315 k_L1316 k_L1317 (by decide) k_L1318 k_L1319 ?_
  refine k_arg C I hl (k := 2) (by omega) k_L1320 k_L1321 k_L1322 (by decide) k_L1323 k_L1324 ?_
  refine k_pub C I (a := 166) (idx := 151) (M := k_M166) (ct := k_c166_0) rfl k_pm166_0 rfl (k_in 5 184 rfl rfl) (by decide +kernel) (x := a1) (As := [.int (xs (i + 1)), .int (xs (i + 2))]) (rest := []) [(a1 : Int), ((xs (i + 1))).toInt, ((xs (i + 2))).toInt] (k_preC 0 rfl (by decide +kernel) ⟨k_aR I.2.2.2.2.1, k_aI _, k_aI _, trivial⟩ trivial) (Nat.le_of_ble_eq_true rfl) k_L1325 hc0 hs0 hl.1 (fun rv1 rs1 w1 H1 lo1 hv1 hp1 I1 => ?_)
  obtain ⟨r1, rfl, rfl⟩ := hv1
  have hR := k_RK hp1.1 (by decide +kernel) (by decide +kernel) hR
  refine lv_pop C.1 C.2.1 k_L1328 rfl ?_
  refine lv_aload_n C.1 C.2.1 k_L1329 rfl (lv_at hl 2 rfl) ?_
  refine k_arg C I1 hl (k := 1) (by omega) k_L1330 k_L1331 k_L1332 (by decide) k_L1333 k_L1334 ?_
  refine k_arg C I1 hl (k := 2) (by omega) k_L1335 k_L1336 k_L1337 (by decide) k_L1338 k_L1339 ?_
  refine k_pub C I1 (a := 296) (idx := 154) (M := k_M296) (ct := k_c296_0) rfl k_pm296_0 rfl (k_in 9 153 rfl rfl) (by decide +kernel) (x := a2) (As := [.int (xs (i + 1)), .int (xs (i + 2))]) (rest := []) [(a2 : Int), ((xs (i + 1))).toInt, ((xs (i + 2))).toInt] (k_preC 0 rfl (by decide +kernel) ⟨k_aR I1.2.2.2.2.2.1, k_aI _, k_aI _, trivial⟩ trivial) (Nat.le_of_ble_eq_true rfl) k_L1340 hc0 hs0 hl.1 (fun rv2 rs2 w2 H2 lo2 hv2 hp2 I2 => ?_)
  obtain ⟨r2, rfl, rfl⟩ := hv2
  have hR := k_RK hp2.1 (by decide +kernel) (by decide +kernel) hR
  refine lv_pop C.1 C.2.1 k_L1343 rfl ?_
  refine lv_goto C.1 C.2.1 k_L1344 (tgt := 1989) (by decide) ?_
  exact W.widen (Nat.le_add_right _ _) (Nat.le_add_right _ _) (kk _ _ _ ⟨I2, hR⟩)
theorem k_case31 {p : Program} {l : Launch} {e : Env} {s : State} {m : MethodId} {below : List Frame} {meth : Method} {c : Code} {Q : State → Prop} {b L : Nat} {xs : Nat → Int32} {D : va_G} {dA : Nat → ClassId} {a1 a2 i cells slots : Nat} {ls : Array Slot} {w : cWld} {H : Heap} {locs : List Loc} (C : k_Cx p s m c b L xs D dA) (I : k_In s D dA a1 a2 w H locs ∧ k_R a1 a2 w) (hl : lv_has ls 4 (k_lv b a1 a2 i)) (hi : i + 7 ≤ L) (hcb : cells + 26 ≤ 600000) (hsb : slots + 1584 ≤ 7302250)
    (kk : ∀ (w : cWld) (H : Heap) (locs : List Loc), k_In s D dA a1 a2 w H locs ∧ k_R a1 a2 w → W p l e room_1 s m #[Value.ref b] below meth c H locs (cells + 26) (slots + 1584) Q (F0 m 1989 ls [])) : W p l e room_1 s m #[Value.ref b] below meth c H locs cells slots Q (F0 m 1347 ls []) := by
  have hc0 : cells ≤ 600000 := by omega
  have hs0 : slots ≤ 7302250 := by omega
  have hc1 := hcb
  have hs1 := hsb
  obtain ⟨I, hR⟩ := I
  refine lv_aload_n C.1 C.2.1 k_L1347 rfl (lv_at hl 1 rfl) ?_
  refine k_arg C I hl (k := 1) (by omega) k_L1348 k_L1349 k_L1350 (by decide) k_L1351 k_L1352 ?_
  refine k_pub C I (a := 167) (idx := 155) (M := k_M167) (ct := k_c167_0) rfl k_pm167_0 rfl (k_in 5 192 rfl rfl) (by decide +kernel) (x := a1) (As := [.int (xs (i + 1))]) (rest := []) [(a1 : Int), ((xs (i + 1))).toInt] (k_preC 0 rfl (by decide +kernel) ⟨k_aR I.2.2.2.2.1, k_aI _, trivial⟩ trivial) (Nat.le_of_ble_eq_true rfl) k_L1353 hc0 hs0 hl.1 (fun rv1 rs1 w1 H1 lo1 hv1 hp1 I1 => ?_)
  obtain ⟨r1, rfl, rfl, -, -⟩ := hv1
  have hR := k_RK hp1.1 (by decide +kernel) (by decide +kernel) hR
  refine lv_pop C.1 C.2.1 k_L1356 rfl ?_
  refine lv_aload_n C.1 C.2.1 k_L1357 rfl (lv_at hl 2 rfl) ?_
  refine k_arg C I1 hl (k := 1) (by omega) k_L1358 k_L1359 k_L1360 (by decide) k_L1361 k_L1362 ?_
  refine k_pub C I1 (a := 298) (idx := 158) (M := k_M298) (ct := k_c298_0) rfl k_pm298_0 rfl (k_in 9 157 rfl rfl) (by decide +kernel) (x := a2) (As := [.int (xs (i + 1))]) (rest := []) [(a2 : Int), ((xs (i + 1))).toInt, 0] (k_preC 3 rfl (by decide +kernel) ⟨k_aR I1.2.2.2.2.2.1, k_aI _, trivial⟩ ⟨k_ghc I1.2.2.2.2.2.2 rfl, trivial⟩) (Nat.le_of_ble_eq_true rfl) k_L1363 hc0 hs0 hl.1 (fun rv2 rs2 w2 H2 lo2 hv2 hp2 I2 => ?_)
  obtain ⟨r2, rfl, rfl, -, -⟩ := hv2
  have hR := k_RK hp2.1 (by decide +kernel) (by decide +kernel) hR
  refine lv_pop C.1 C.2.1 k_L1366 rfl ?_
  refine lv_goto C.1 C.2.1 k_L1367 (tgt := 1989) (by decide) ?_
  exact W.widen (Nat.le_add_right _ _) (Nat.le_add_right _ _) (kk _ _ _ ⟨I2, hR⟩)
theorem k_case32 {p : Program} {l : Launch} {e : Env} {s : State} {m : MethodId} {below : List Frame} {meth : Method} {c : Code} {Q : State → Prop} {b L : Nat} {xs : Nat → Int32} {D : va_G} {dA : Nat → ClassId} {a1 a2 i cells slots : Nat} {ls : Array Slot} {w : cWld} {H : Heap} {locs : List Loc} (C : k_Cx p s m c b L xs D dA) (I : k_In s D dA a1 a2 w H locs ∧ k_R a1 a2 w) (hl : lv_has ls 4 (k_lv b a1 a2 i)) (hi : i + 7 ≤ L) (hcb : cells + 26 ≤ 600000) (hsb : slots + 1584 ≤ 7302250)
    (kk : ∀ (w : cWld) (H : Heap) (locs : List Loc), k_In s D dA a1 a2 w H locs ∧ k_R a1 a2 w → W p l e room_1 s m #[Value.ref b] below meth c H locs (cells + 26) (slots + 1584) Q (F0 m 1989 ls [])) : W p l e room_1 s m #[Value.ref b] below meth c H locs cells slots Q (F0 m 1370 ls []) := by
  have hc0 : cells ≤ 600000 := by omega
  have hs0 : slots ≤ 7302250 := by omega
  have hc1 := hcb
  have hs1 := hsb
  obtain ⟨I, hR⟩ := I
  refine lv_aload_n C.1 C.2.1 k_L1370 rfl (lv_at hl 1 rfl) ?_
  refine k_arg C I hl (k := 1) (by omega) k_L1371 k_L1372 k_L1373 (by decide) k_L1374 k_L1375 ?_
  refine k_arg C I hl (k := 2) (by omega) k_L1376 k_L1377 k_L1378 (by decide) k_L1379 k_L1380 ?_
  refine k_arg C I hl (k := 3) (by omega) k_L1381 k_L1382 k_L1383 (by decide) k_L1384 k_L1385 ?_
  refine k_arg C I hl (k := 4) (by omega) k_L1386 k_L1387 k_L1388 (by decide) k_L1389 k_L1390 ?_
  refine k_arg C I hl (k := 5) (by omega) k_L1391 k_L1392 k_L1393 (by decide) k_L1394 k_L1395 ?_
  refine k_bool C k_L1396 k_L1399 k_L1400 k_L1403 (fun z1 hz1 => ?_)
  refine k_pub C I (a := 169) (idx := 159) (M := k_M169) (ct := k_c169_0) rfl k_pm169_0 rfl (k_in 5 206 rfl rfl) (by decide +kernel) (x := a1) (As := [.int (xs (i + 1)), .int (xs (i + 2)), .int (xs (i + 3)), .int (xs (i + 4)), .int z1]) (rest := []) [(a1 : Int), ((xs (i + 1))).toInt, ((xs (i + 2))).toInt, ((xs (i + 3))).toInt, ((xs (i + 4))).toInt, (z1).toInt] (k_preC 0 rfl (by decide +kernel) ⟨k_aR I.2.2.2.2.1, k_aI _, k_aI _, k_aI _, k_aI _, k_aZ hz1, trivial⟩ trivial) (Nat.le_of_ble_eq_true rfl) k_L1404 hc0 hs0 hl.1 (fun rv1 rs1 w1 H1 lo1 hv1 hp1 I1 => ?_)
  obtain ⟨r1, rfl, rfl, -, -⟩ := hv1
  have hR := k_RK hp1.1 (by decide +kernel) (by decide +kernel) hR
  refine lv_pop C.1 C.2.1 k_L1407 rfl ?_
  refine lv_aload_n C.1 C.2.1 k_L1408 rfl (lv_at hl 2 rfl) ?_
  refine k_arg C I1 hl (k := 1) (by omega) k_L1409 k_L1410 k_L1411 (by decide) k_L1412 k_L1413 ?_
  refine k_arg C I1 hl (k := 2) (by omega) k_L1414 k_L1415 k_L1416 (by decide) k_L1417 k_L1418 ?_
  refine k_arg C I1 hl (k := 3) (by omega) k_L1419 k_L1420 k_L1421 (by decide) k_L1422 k_L1423 ?_
  refine k_arg C I1 hl (k := 4) (by omega) k_L1424 k_L1425 k_L1426 (by decide) k_L1427 k_L1428 ?_
  refine k_arg C I1 hl (k := 5) (by omega) k_L1429 k_L1430 k_L1431 (by decide) k_L1432 k_L1433 ?_
  refine k_bool C k_L1434 k_L1437 k_L1438 k_L1441 (fun z2 hz2 => ?_)
  refine k_pub C I1 (a := 299) (idx := 163) (M := k_M299) (ct := k_c299_0) rfl k_pm299_0 rfl (k_in 9 165 rfl rfl) (by decide +kernel) (x := a2) (As := [.int (xs (i + 1)), .int (xs (i + 2)), .int (xs (i + 3)), .int (xs (i + 4)), .int z2]) (rest := []) [(a2 : Int), ((xs (i + 1))).toInt, ((xs (i + 2))).toInt, ((xs (i + 3))).toInt, ((xs (i + 4))).toInt, (z2).toInt] (k_preC 0 rfl (by decide +kernel) ⟨k_aR I1.2.2.2.2.2.1, k_aI _, k_aI _, k_aI _, k_aI _, k_aZ hz2, trivial⟩ trivial) (Nat.le_of_ble_eq_true rfl) k_L1442 hc0 hs0 hl.1 (fun rv2 rs2 w2 H2 lo2 hv2 hp2 I2 => ?_)
  obtain ⟨r2, rfl, rfl, -, -⟩ := hv2
  have hR := k_RK hp2.1 (by decide +kernel) (by decide +kernel) hR
  refine lv_pop C.1 C.2.1 k_L1445 rfl ?_
  refine lv_goto C.1 C.2.1 k_L1446 (tgt := 1989) (by decide) ?_
  exact W.widen (Nat.le_add_right _ _) (Nat.le_add_right _ _) (kk _ _ _ ⟨I2, hR⟩)
theorem k_case33 {p : Program} {l : Launch} {e : Env} {s : State} {m : MethodId} {below : List Frame} {meth : Method} {c : Code} {Q : State → Prop} {b L : Nat} {xs : Nat → Int32} {D : va_G} {dA : Nat → ClassId} {a1 a2 i cells slots : Nat} {ls : Array Slot} {w : cWld} {H : Heap} {locs : List Loc} (C : k_Cx p s m c b L xs D dA) (I : k_In s D dA a1 a2 w H locs ∧ k_R a1 a2 w) (hl : lv_has ls 4 (k_lv b a1 a2 i)) (hi : i + 7 ≤ L) (hcb : cells + 26 ≤ 600000) (hsb : slots + 1584 ≤ 7302250)
    (kk : ∀ (w : cWld) (H : Heap) (locs : List Loc), k_In s D dA a1 a2 w H locs ∧ k_R a1 a2 w → W p l e room_1 s m #[Value.ref b] below meth c H locs (cells + 26) (slots + 1584) Q (F0 m 1989 ls [])) : W p l e room_1 s m #[Value.ref b] below meth c H locs cells slots Q (F0 m 1449 ls []) := by
  have hc0 : cells ≤ 600000 := by omega
  have hs0 : slots ≤ 7302250 := by omega
  have hc1 := hcb
  have hs1 := hsb
  obtain ⟨I, hR⟩ := I
  refine lv_aload_n C.1 C.2.1 k_L1449 rfl (lv_at hl 1 rfl) ?_
  refine k_pub C I (a := 170) (idx := 164) (M := k_M170) (ct := k_c170_0) rfl k_pm170_0 rfl (k_in 5 211 rfl rfl) (by decide +kernel) (x := a1) (As := []) (rest := []) [(a1 : Int)] (k_preC 0 rfl (by decide +kernel) ⟨k_aR I.2.2.2.2.1, trivial⟩ trivial) (Nat.le_of_ble_eq_true rfl) k_L1450 hc0 hs0 hl.1 (fun rv1 rs1 w1 H1 lo1 hv1 hp1 I1 => ?_)
  obtain ⟨r1, rfl, rfl, -, -⟩ := hv1
  have hR := k_RK hp1.1 (by decide +kernel) (by decide +kernel) hR
  refine lv_pop C.1 C.2.1 k_L1453 rfl ?_
  refine lv_aload_n C.1 C.2.1 k_L1454 rfl (lv_at hl 2 rfl) ?_
  refine k_pub C I1 (a := 300) (idx := 168) (M := k_M300) (ct := k_c300_0) rfl k_pm300_0 rfl (k_in 9 170 rfl rfl) (by decide +kernel) (x := a2) (As := []) (rest := []) [(a2 : Int)] (k_preC 0 rfl (by decide +kernel) ⟨k_aR I1.2.2.2.2.2.1, trivial⟩ trivial) (Nat.le_of_ble_eq_true rfl) k_L1455 hc0 hs0 hl.1 (fun rv2 rs2 w2 H2 lo2 hv2 hp2 I2 => ?_)
  obtain ⟨r2, rfl, rfl, -, -⟩ := hv2
  have hR := k_RK hp2.1 (by decide +kernel) (by decide +kernel) hR
  refine lv_pop C.1 C.2.1 k_L1458 rfl ?_
  refine lv_goto C.1 C.2.1 k_L1459 (tgt := 1989) (by decide) ?_
  exact W.widen (Nat.le_add_right _ _) (Nat.le_add_right _ _) (kk _ _ _ ⟨I2, hR⟩)
theorem k_case34 {p : Program} {l : Launch} {e : Env} {s : State} {m : MethodId} {below : List Frame} {meth : Method} {c : Code} {Q : State → Prop} {b L : Nat} {xs : Nat → Int32} {D : va_G} {dA : Nat → ClassId} {a1 a2 i cells slots : Nat} {ls : Array Slot} {w : cWld} {H : Heap} {locs : List Loc} (C : k_Cx p s m c b L xs D dA) (I : k_In s D dA a1 a2 w H locs ∧ k_R a1 a2 w) (hl : lv_has ls 4 (k_lv b a1 a2 i)) (hi : i + 7 ≤ L) (hcb : cells + 26 ≤ 600000) (hsb : slots + 1584 ≤ 7302250)
    (kk : ∀ (w : cWld) (H : Heap) (locs : List Loc), k_In s D dA a1 a2 w H locs ∧ k_R a1 a2 w → W p l e room_1 s m #[Value.ref b] below meth c H locs (cells + 26) (slots + 1584) Q (F0 m 1989 ls [])) : W p l e room_1 s m #[Value.ref b] below meth c H locs cells slots Q (F0 m 1462 ls []) := by
  have hc0 : cells ≤ 600000 := by omega
  have hs0 : slots ≤ 7302250 := by omega
  have hc1 := hcb
  have hs1 := hsb
  obtain ⟨I, hR⟩ := I
  refine lv_aload_n C.1 C.2.1 k_L1462 rfl (lv_at hl 1 rfl) ?_
  refine k_arg C I hl (k := 1) (by omega) k_L1463 k_L1464 k_L1465 (by decide) k_L1466 k_L1467 ?_
  refine k_arg C I hl (k := 2) (by omega) k_L1468 k_L1469 k_L1470 (by decide) k_L1471 k_L1472 ?_
  refine k_pub C I (a := 171) (idx := 169) (M := k_M171) (ct := k_c171_0) rfl k_pm171_0 rfl (k_in 5 215 rfl rfl) (by decide +kernel) (x := a1) (As := [.int (xs (i + 1)), .int (xs (i + 2))]) (rest := []) [(a1 : Int), ((xs (i + 1))).toInt, ((xs (i + 2))).toInt] (k_preC 0 rfl (by decide +kernel) ⟨k_aR I.2.2.2.2.1, k_aI _, k_aI _, trivial⟩ trivial) (Nat.le_of_ble_eq_true rfl) k_L1473 hc0 hs0 hl.1 (fun rv1 rs1 w1 H1 lo1 hv1 hp1 I1 => ?_)
  obtain ⟨r1, rfl, rfl⟩ := hv1
  have hR := k_RK hp1.1 (by decide +kernel) (by decide +kernel) hR
  refine lv_pop C.1 C.2.1 k_L1476 rfl ?_
  refine lv_aload_n C.1 C.2.1 k_L1477 rfl (lv_at hl 2 rfl) ?_
  refine k_arg C I1 hl (k := 1) (by omega) k_L1478 k_L1479 k_L1480 (by decide) k_L1481 k_L1482 ?_
  refine k_arg C I1 hl (k := 2) (by omega) k_L1483 k_L1484 k_L1485 (by decide) k_L1486 k_L1487 ?_
  refine k_pub C I1 (a := 301) (idx := 172) (M := k_M301) (ct := k_c301_0) rfl k_pm301_0 rfl (k_in 9 174 rfl rfl) (by decide +kernel) (x := a2) (As := [.int (xs (i + 1)), .int (xs (i + 2))]) (rest := []) [(a2 : Int), ((xs (i + 1))).toInt, ((xs (i + 2))).toInt] (k_preC 0 rfl (by decide +kernel) ⟨k_aR I1.2.2.2.2.2.1, k_aI _, k_aI _, trivial⟩ trivial) (Nat.le_of_ble_eq_true rfl) k_L1488 hc0 hs0 hl.1 (fun rv2 rs2 w2 H2 lo2 hv2 hp2 I2 => ?_)
  obtain ⟨r2, rfl, rfl⟩ := hv2
  have hR := k_RK hp2.1 (by decide +kernel) (by decide +kernel) hR
  refine lv_pop C.1 C.2.1 k_L1491 rfl ?_
  refine lv_goto C.1 C.2.1 k_L1492 (tgt := 1989) (by decide) ?_
  exact W.widen (Nat.le_add_right _ _) (Nat.le_add_right _ _) (kk _ _ _ ⟨I2, hR⟩)
theorem k_case35 {p : Program} {l : Launch} {e : Env} {s : State} {m : MethodId} {below : List Frame} {meth : Method} {c : Code} {Q : State → Prop} {b L : Nat} {xs : Nat → Int32} {D : va_G} {dA : Nat → ClassId} {a1 a2 i cells slots : Nat} {ls : Array Slot} {w : cWld} {H : Heap} {locs : List Loc} (C : k_Cx p s m c b L xs D dA) (I : k_In s D dA a1 a2 w H locs ∧ k_R a1 a2 w) (hl : lv_has ls 4 (k_lv b a1 a2 i)) (hi : i + 7 ≤ L) (hcb : cells + 26 ≤ 600000) (hsb : slots + 1584 ≤ 7302250)
    (kk : ∀ (w : cWld) (H : Heap) (locs : List Loc), k_In s D dA a1 a2 w H locs ∧ k_R a1 a2 w → W p l e room_1 s m #[Value.ref b] below meth c H locs (cells + 26) (slots + 1584) Q (F0 m 1989 ls [])) : W p l e room_1 s m #[Value.ref b] below meth c H locs cells slots Q (F0 m 1495 ls []) := by
  have hc0 : cells ≤ 600000 := by omega
  have hs0 : slots ≤ 7302250 := by omega
  have hc1 := hcb
  have hs1 := hsb
  obtain ⟨I, hR⟩ := I
  refine lv_aload_n C.1 C.2.1 k_L1495 rfl (lv_at hl 1 rfl) ?_
  refine k_arg C I hl (k := 1) (by omega) k_L1496 k_L1497 k_L1498 (by decide) k_L1499 k_L1500 ?_
  refine k_arg C I hl (k := 2) (by omega) k_L1501 k_L1502 k_L1503 (by decide) k_L1504 k_L1505 ?_
  refine k_pub C I (a := 173) (idx := 173) (M := k_M173) (ct := k_c173_0) rfl k_pm173_0 rfl (k_in 5 221 rfl rfl) (by decide +kernel) (x := a1) (As := [.int (xs (i + 1)), .int (xs (i + 2))]) (rest := []) [(a1 : Int), ((xs (i + 1))).toInt, ((xs (i + 2))).toInt] (k_preC 0 rfl (by decide +kernel) ⟨k_aR I.2.2.2.2.1, k_aI _, k_aI _, trivial⟩ trivial) (Nat.le_of_ble_eq_true rfl) k_L1506 hc0 hs0 hl.1 (fun rv1 rs1 w1 H1 lo1 hv1 hp1 I1 => ?_)
  obtain ⟨r1, rfl, rfl, -, -⟩ := hv1
  have hR := k_RK hp1.1 (by decide +kernel) (by decide +kernel) hR
  refine lv_pop C.1 C.2.1 k_L1509 rfl ?_
  refine lv_aload_n C.1 C.2.1 k_L1510 rfl (lv_at hl 2 rfl) ?_
  refine k_arg C I1 hl (k := 1) (by omega) k_L1511 k_L1512 k_L1513 (by decide) k_L1514 k_L1515 ?_
  refine k_arg C I1 hl (k := 2) (by omega) k_L1516 k_L1517 k_L1518 (by decide) k_L1519 k_L1520 ?_
  refine k_pub C I1 (a := 303) (idx := 176) (M := k_M303) (ct := k_c303_0) rfl k_pm303_0 rfl (k_in 9 178 rfl rfl) (by decide +kernel) (x := a2) (As := [.int (xs (i + 1)), .int (xs (i + 2))]) (rest := []) [(a2 : Int), ((xs (i + 1))).toInt, ((xs (i + 2))).toInt, 0] (k_preC 4 rfl (by decide +kernel) ⟨k_aR I1.2.2.2.2.2.1, k_aI _, k_aI _, trivial⟩ ⟨k_ghc I1.2.2.2.2.2.2 rfl, trivial⟩) (Nat.le_of_ble_eq_true rfl) k_L1521 hc0 hs0 hl.1 (fun rv2 rs2 w2 H2 lo2 hv2 hp2 I2 => ?_)
  obtain ⟨r2, rfl, rfl, -, -⟩ := hv2
  have hR := k_RK hp2.1 (by decide +kernel) (by decide +kernel) hR
  refine lv_pop C.1 C.2.1 k_L1524 rfl ?_
  refine lv_goto C.1 C.2.1 k_L1525 (tgt := 1989) (by decide) ?_
  exact W.widen (Nat.le_add_right _ _) (Nat.le_add_right _ _) (kk _ _ _ ⟨I2, hR⟩)
theorem k_case36 {p : Program} {l : Launch} {e : Env} {s : State} {m : MethodId} {below : List Frame} {meth : Method} {c : Code} {Q : State → Prop} {b L : Nat} {xs : Nat → Int32} {D : va_G} {dA : Nat → ClassId} {a1 a2 i cells slots : Nat} {ls : Array Slot} {w : cWld} {H : Heap} {locs : List Loc} (C : k_Cx p s m c b L xs D dA) (I : k_In s D dA a1 a2 w H locs ∧ k_R a1 a2 w) (hl : lv_has ls 4 (k_lv b a1 a2 i)) (hi : i + 7 ≤ L) (hcb : cells + 26 ≤ 600000) (hsb : slots + 1584 ≤ 7302250)
    (kk : ∀ (w : cWld) (H : Heap) (locs : List Loc), k_In s D dA a1 a2 w H locs ∧ k_R a1 a2 w → W p l e room_1 s m #[Value.ref b] below meth c H locs (cells + 26) (slots + 1584) Q (F0 m 1989 ls [])) : W p l e room_1 s m #[Value.ref b] below meth c H locs cells slots Q (F0 m 1528 ls []) := by
  have hc0 : cells ≤ 600000 := by omega
  have hs0 : slots ≤ 7302250 := by omega
  have hc1 := hcb
  have hs1 := hsb
  obtain ⟨I, hR⟩ := I
  refine lv_aload_n C.1 C.2.1 k_L1528 rfl (lv_at hl 1 rfl) ?_
  refine k_arg C I hl (k := 1) (by omega) k_L1529 k_L1530 k_L1531 (by decide) k_L1532 k_L1533 ?_
  refine k_pub C I (a := 174) (idx := 177) (M := k_M174) (ct := k_c174_0) rfl k_pm174_0 rfl (k_in 5 229 rfl rfl) (by decide +kernel) (x := a1) (As := [.int (xs (i + 1))]) (rest := []) [(a1 : Int), ((xs (i + 1))).toInt] (k_preC 0 rfl (by decide +kernel) ⟨k_aR I.2.2.2.2.1, k_aI _, trivial⟩ trivial) (Nat.le_of_ble_eq_true rfl) k_L1534 hc0 hs0 hl.1 (fun rv1 rs1 w1 H1 lo1 hv1 hp1 I1 => ?_)
  obtain ⟨r1, rfl, rfl⟩ := hv1
  have hR := k_RK hp1.1 (by decide +kernel) (by decide +kernel) hR
  refine lv_pop C.1 C.2.1 k_L1537 rfl ?_
  refine lv_aload_n C.1 C.2.1 k_L1538 rfl (lv_at hl 2 rfl) ?_
  refine k_arg C I1 hl (k := 1) (by omega) k_L1539 k_L1540 k_L1541 (by decide) k_L1542 k_L1543 ?_
  refine k_pub C I1 (a := 304) (idx := 180) (M := k_M304) (ct := k_c304_0) rfl k_pm304_0 rfl (k_in 9 186 rfl rfl) (by decide +kernel) (x := a2) (As := [.int (xs (i + 1))]) (rest := []) [(a2 : Int), ((xs (i + 1))).toInt, 0] (k_preC 3 rfl (by decide +kernel) ⟨k_aR I1.2.2.2.2.2.1, k_aI _, trivial⟩ ⟨k_ghc I1.2.2.2.2.2.2 rfl, trivial⟩) (Nat.le_of_ble_eq_true rfl) k_L1544 hc0 hs0 hl.1 (fun rv2 rs2 w2 H2 lo2 hv2 hp2 I2 => ?_)
  obtain ⟨r2, rfl, rfl⟩ := hv2
  have hR := k_RK hp2.1 (by decide +kernel) (by decide +kernel) hR
  refine lv_pop C.1 C.2.1 k_L1547 rfl ?_
  refine lv_goto C.1 C.2.1 k_L1548 (tgt := 1989) (by decide) ?_
  exact W.widen (Nat.le_add_right _ _) (Nat.le_add_right _ _) (kk _ _ _ ⟨I2, hR⟩)
theorem k_case37 {p : Program} {l : Launch} {e : Env} {s : State} {m : MethodId} {below : List Frame} {meth : Method} {c : Code} {Q : State → Prop} {b L : Nat} {xs : Nat → Int32} {D : va_G} {dA : Nat → ClassId} {a1 a2 i cells slots : Nat} {ls : Array Slot} {w : cWld} {H : Heap} {locs : List Loc} (C : k_Cx p s m c b L xs D dA) (I : k_In s D dA a1 a2 w H locs ∧ k_R a1 a2 w) (hl : lv_has ls 4 (k_lv b a1 a2 i)) (hi : i + 7 ≤ L) (hcb : cells + 26 ≤ 600000) (hsb : slots + 1584 ≤ 7302250)
    (kk : ∀ (w : cWld) (H : Heap) (locs : List Loc), k_In s D dA a1 a2 w H locs ∧ k_R a1 a2 w → W p l e room_1 s m #[Value.ref b] below meth c H locs (cells + 26) (slots + 1584) Q (F0 m 1989 ls [])) : W p l e room_1 s m #[Value.ref b] below meth c H locs cells slots Q (F0 m 1551 ls []) := by
  have hc0 : cells ≤ 600000 := by omega
  have hs0 : slots ≤ 7302250 := by omega
  have hc1 := hcb
  have hs1 := hsb
  obtain ⟨I, hR⟩ := I
  refine lv_aload_n C.1 C.2.1 k_L1551 rfl (lv_at hl 1 rfl) ?_
  refine k_arg C I hl (k := 1) (by omega) k_L1552 k_L1553 k_L1554 (by decide) k_L1555 k_L1556 ?_
  refine k_pub C I (a := 176) (idx := 181) (M := k_M176) (ct := k_c176_0) rfl k_pm176_0 rfl (k_in 5 233 rfl rfl) (by decide +kernel) (x := a1) (As := [.int (xs (i + 1))]) (rest := []) [(a1 : Int), ((xs (i + 1))).toInt] (k_preC 0 rfl (by decide +kernel) ⟨k_aR I.2.2.2.2.1, k_aI _, trivial⟩ trivial) (Nat.le_of_ble_eq_true rfl) k_L1557 hc0 hs0 hl.1 (fun rv1 rs1 w1 H1 lo1 hv1 hp1 I1 => ?_)
  obtain ⟨r1, rfl, rfl, -, -⟩ := hv1
  have hR := k_RK hp1.1 (by decide +kernel) (by decide +kernel) hR
  refine lv_pop C.1 C.2.1 k_L1560 rfl ?_
  refine lv_aload_n C.1 C.2.1 k_L1561 rfl (lv_at hl 2 rfl) ?_
  refine k_arg C I1 hl (k := 1) (by omega) k_L1562 k_L1563 k_L1564 (by decide) k_L1565 k_L1566 ?_
  refine k_pub C I1 (a := 306) (idx := 184) (M := k_M306) (ct := k_c306_0) rfl k_pm306_0 rfl (k_in 9 190 rfl rfl) (by decide +kernel) (x := a2) (As := [.int (xs (i + 1))]) (rest := []) [(a2 : Int), ((xs (i + 1))).toInt, 0] (k_preC 3 rfl (by decide +kernel) ⟨k_aR I1.2.2.2.2.2.1, k_aI _, trivial⟩ ⟨k_ghc I1.2.2.2.2.2.2 rfl, trivial⟩) (Nat.le_of_ble_eq_true rfl) k_L1567 hc0 hs0 hl.1 (fun rv2 rs2 w2 H2 lo2 hv2 hp2 I2 => ?_)
  obtain ⟨r2, rfl, rfl, -, -⟩ := hv2
  have hR := k_RK hp2.1 (by decide +kernel) (by decide +kernel) hR
  refine lv_pop C.1 C.2.1 k_L1570 rfl ?_
  refine lv_goto C.1 C.2.1 k_L1571 (tgt := 1989) (by decide) ?_
  exact W.widen (Nat.le_add_right _ _) (Nat.le_add_right _ _) (kk _ _ _ ⟨I2, hR⟩)
theorem k_case38 {p : Program} {l : Launch} {e : Env} {s : State} {m : MethodId} {below : List Frame} {meth : Method} {c : Code} {Q : State → Prop} {b L : Nat} {xs : Nat → Int32} {D : va_G} {dA : Nat → ClassId} {a1 a2 i cells slots : Nat} {ls : Array Slot} {w : cWld} {H : Heap} {locs : List Loc} (C : k_Cx p s m c b L xs D dA) (I : k_In s D dA a1 a2 w H locs ∧ k_R a1 a2 w) (hl : lv_has ls 4 (k_lv b a1 a2 i)) (hi : i + 7 ≤ L) (hcb : cells + 26 ≤ 600000) (hsb : slots + 1584 ≤ 7302250)
    (kk : ∀ (w : cWld) (H : Heap) (locs : List Loc), k_In s D dA a1 a2 w H locs ∧ k_R a1 a2 w → W p l e room_1 s m #[Value.ref b] below meth c H locs (cells + 26) (slots + 1584) Q (F0 m 1989 ls [])) : W p l e room_1 s m #[Value.ref b] below meth c H locs cells slots Q (F0 m 1574 ls []) := by
  have hc0 : cells ≤ 600000 := by omega
  have hs0 : slots ≤ 7302250 := by omega
  have hc1 := hcb
  have hs1 := hsb
  obtain ⟨I, hR⟩ := I
  refine lv_aload_n C.1 C.2.1 k_L1574 rfl (lv_at hl 1 rfl) ?_
  refine k_arg C I hl (k := 1) (by omega) k_L1575 k_L1576 k_L1577 (by decide) k_L1578 k_L1579 ?_
  refine k_pub C I (a := 177) (idx := 185) (M := k_M177) (ct := k_c177_0) rfl k_pm177_0 rfl (k_in 6 2 rfl rfl) (by decide +kernel) (x := a1) (As := [.int (xs (i + 1))]) (rest := []) [(a1 : Int), ((xs (i + 1))).toInt] (k_preC 0 rfl (by decide +kernel) ⟨k_aR I.2.2.2.2.1, k_aI _, trivial⟩ trivial) (Nat.le_of_ble_eq_true rfl) k_L1580 hc0 hs0 hl.1 (fun rv1 rs1 w1 H1 lo1 hv1 hp1 I1 => ?_)
  obtain ⟨r1, rfl, rfl, -, -⟩ := hv1
  have hR := k_RK hp1.1 (by decide +kernel) (by decide +kernel) hR
  refine lv_pop C.1 C.2.1 k_L1583 rfl ?_
  refine lv_aload_n C.1 C.2.1 k_L1584 rfl (lv_at hl 2 rfl) ?_
  refine k_arg C I1 hl (k := 1) (by omega) k_L1585 k_L1586 k_L1587 (by decide) k_L1588 k_L1589 ?_
  refine k_pub C I1 (a := 307) (idx := 188) (M := k_M307) (ct := k_c307_0) rfl k_pm307_0 rfl (k_in 9 198 rfl rfl) (by decide +kernel) (x := a2) (As := [.int (xs (i + 1))]) (rest := []) [(a2 : Int), ((xs (i + 1))).toInt, 0] (k_preC 3 rfl (by decide +kernel) ⟨k_aR I1.2.2.2.2.2.1, k_aI _, trivial⟩ ⟨k_ghc I1.2.2.2.2.2.2 rfl, trivial⟩) (Nat.le_of_ble_eq_true rfl) k_L1590 hc0 hs0 hl.1 (fun rv2 rs2 w2 H2 lo2 hv2 hp2 I2 => ?_)
  obtain ⟨r2, rfl, rfl, -, -⟩ := hv2
  have hR := k_RK hp2.1 (by decide +kernel) (by decide +kernel) hR
  refine lv_pop C.1 C.2.1 k_L1593 rfl ?_
  refine lv_goto C.1 C.2.1 k_L1594 (tgt := 1989) (by decide) ?_
  exact W.widen (Nat.le_add_right _ _) (Nat.le_add_right _ _) (kk _ _ _ ⟨I2, hR⟩)
theorem k_case39 {p : Program} {l : Launch} {e : Env} {s : State} {m : MethodId} {below : List Frame} {meth : Method} {c : Code} {Q : State → Prop} {b L : Nat} {xs : Nat → Int32} {D : va_G} {dA : Nat → ClassId} {a1 a2 i cells slots : Nat} {ls : Array Slot} {w : cWld} {H : Heap} {locs : List Loc} (C : k_Cx p s m c b L xs D dA) (I : k_In s D dA a1 a2 w H locs ∧ k_R a1 a2 w) (hl : lv_has ls 4 (k_lv b a1 a2 i)) (hi : i + 7 ≤ L) (hcb : cells + 26 ≤ 600000) (hsb : slots + 1584 ≤ 7302250)
    (kk : ∀ (w : cWld) (H : Heap) (locs : List Loc), k_In s D dA a1 a2 w H locs ∧ k_R a1 a2 w → W p l e room_1 s m #[Value.ref b] below meth c H locs (cells + 26) (slots + 1584) Q (F0 m 1989 ls [])) : W p l e room_1 s m #[Value.ref b] below meth c H locs cells slots Q (F0 m 1597 ls []) := by
  have hc0 : cells ≤ 600000 := by omega
  have hs0 : slots ≤ 7302250 := by omega
  have hc1 := hcb
  have hs1 := hsb
  obtain ⟨I, hR⟩ := I
  refine lv_aload_n C.1 C.2.1 k_L1597 rfl (lv_at hl 1 rfl) ?_
  refine k_arg C I hl (k := 1) (by omega) k_L1598 k_L1599 k_L1600 (by decide) k_L1601 k_L1602 ?_
  refine k_pub C I (a := 180) (idx := 189) (M := k_M180) (ct := k_c180_0) rfl k_pm180_0 rfl (k_in 6 6 rfl rfl) (by decide +kernel) (x := a1) (As := [.int (xs (i + 1))]) (rest := []) [(a1 : Int), ((xs (i + 1))).toInt] (k_preC 0 rfl (by decide +kernel) ⟨k_aR I.2.2.2.2.1, k_aI _, trivial⟩ trivial) (Nat.le_of_ble_eq_true rfl) k_L1603 hc0 hs0 hl.1 (fun rv1 rs1 w1 H1 lo1 hv1 hp1 I1 => ?_)
  obtain ⟨r1, rfl, rfl, -, -⟩ := hv1
  have hR := k_RK hp1.1 (by decide +kernel) (by decide +kernel) hR
  refine lv_pop C.1 C.2.1 k_L1606 rfl ?_
  refine lv_aload_n C.1 C.2.1 k_L1607 rfl (lv_at hl 2 rfl) ?_
  refine k_arg C I1 hl (k := 1) (by omega) k_L1608 k_L1609 k_L1610 (by decide) k_L1611 k_L1612 ?_
  refine k_pub C I1 (a := 310) (idx := 192) (M := k_M310) (ct := k_c310_0) rfl k_pm310_0 rfl (k_in 9 202 rfl rfl) (by decide +kernel) (x := a2) (As := [.int (xs (i + 1))]) (rest := []) [(a2 : Int), ((xs (i + 1))).toInt] (k_preC 0 rfl (by decide +kernel) ⟨k_aR I1.2.2.2.2.2.1, k_aI _, trivial⟩ trivial) (Nat.le_of_ble_eq_true rfl) k_L1613 hc0 hs0 hl.1 (fun rv2 rs2 w2 H2 lo2 hv2 hp2 I2 => ?_)
  obtain ⟨r2, rfl, rfl, -, -⟩ := hv2
  have hR := k_RK hp2.1 (by decide +kernel) (by decide +kernel) hR
  refine lv_pop C.1 C.2.1 k_L1616 rfl ?_
  refine lv_goto C.1 C.2.1 k_L1617 (tgt := 1989) (by decide) ?_
  exact W.widen (Nat.le_add_right _ _) (Nat.le_add_right _ _) (kk _ _ _ ⟨I2, hR⟩)
theorem k_case40 {p : Program} {l : Launch} {e : Env} {s : State} {m : MethodId} {below : List Frame} {meth : Method} {c : Code} {Q : State → Prop} {b L : Nat} {xs : Nat → Int32} {D : va_G} {dA : Nat → ClassId} {a1 a2 i cells slots : Nat} {ls : Array Slot} {w : cWld} {H : Heap} {locs : List Loc} (C : k_Cx p s m c b L xs D dA) (I : k_In s D dA a1 a2 w H locs ∧ k_R a1 a2 w) (hl : lv_has ls 4 (k_lv b a1 a2 i)) (hi : i + 7 ≤ L) (hcb : cells + 26 ≤ 600000) (hsb : slots + 1584 ≤ 7302250)
    (kk : ∀ (w : cWld) (H : Heap) (locs : List Loc), k_In s D dA a1 a2 w H locs ∧ k_R a1 a2 w → W p l e room_1 s m #[Value.ref b] below meth c H locs (cells + 26) (slots + 1584) Q (F0 m 1989 ls [])) : W p l e room_1 s m #[Value.ref b] below meth c H locs cells slots Q (F0 m 1620 ls []) := by
  have hc0 : cells ≤ 600000 := by omega
  have hs0 : slots ≤ 7302250 := by omega
  have hc1 := hcb
  have hs1 := hsb
  obtain ⟨I, hR⟩ := I
  refine lv_aload_n C.1 C.2.1 k_L1620 rfl (lv_at hl 1 rfl) ?_
  refine k_arg C I hl (k := 1) (by omega) k_L1621 k_L1622 k_L1623 (by decide) k_L1624 k_L1625 ?_
  refine k_pub C I (a := 181) (idx := 193) (M := k_M181) (ct := k_c181_0) rfl k_pm181_0 rfl (k_in 6 18 rfl rfl) (by decide +kernel) (x := a1) (As := [.int (xs (i + 1))]) (rest := []) [(a1 : Int), ((xs (i + 1))).toInt] (k_preC 0 rfl (by decide +kernel) ⟨k_aR I.2.2.2.2.1, k_aI _, trivial⟩ trivial) (Nat.le_of_ble_eq_true rfl) k_L1626 hc0 hs0 hl.1 (fun rv1 rs1 w1 H1 lo1 hv1 hp1 I1 => ?_)
  obtain ⟨r1, rfl, rfl, -, -⟩ := hv1
  have hR := k_RK hp1.1 (by decide +kernel) (by decide +kernel) hR
  refine lv_pop C.1 C.2.1 k_L1629 rfl ?_
  refine lv_aload_n C.1 C.2.1 k_L1630 rfl (lv_at hl 2 rfl) ?_
  refine k_arg C I1 hl (k := 1) (by omega) k_L1631 k_L1632 k_L1633 (by decide) k_L1634 k_L1635 ?_
  refine k_pub C I1 (a := 311) (idx := 196) (M := k_M311) (ct := k_c311_0) rfl k_pm311_0 rfl (k_in 9 214 rfl rfl) (by decide +kernel) (x := a2) (As := [.int (xs (i + 1))]) (rest := []) [(a2 : Int), ((xs (i + 1))).toInt] (k_preC 0 rfl (by decide +kernel) ⟨k_aR I1.2.2.2.2.2.1, k_aI _, trivial⟩ trivial) (Nat.le_of_ble_eq_true rfl) k_L1636 hc0 hs0 hl.1 (fun rv2 rs2 w2 H2 lo2 hv2 hp2 I2 => ?_)
  obtain ⟨r2, rfl, rfl, -, -⟩ := hv2
  have hR := k_RK hp2.1 (by decide +kernel) (by decide +kernel) hR
  refine lv_pop C.1 C.2.1 k_L1639 rfl ?_
  refine lv_goto C.1 C.2.1 k_L1640 (tgt := 1989) (by decide) ?_
  exact W.widen (Nat.le_add_right _ _) (Nat.le_add_right _ _) (kk _ _ _ ⟨I2, hR⟩)
theorem k_case41 {p : Program} {l : Launch} {e : Env} {s : State} {m : MethodId} {below : List Frame} {meth : Method} {c : Code} {Q : State → Prop} {b L : Nat} {xs : Nat → Int32} {D : va_G} {dA : Nat → ClassId} {a1 a2 i cells slots : Nat} {ls : Array Slot} {w : cWld} {H : Heap} {locs : List Loc} (C : k_Cx p s m c b L xs D dA) (I : k_In s D dA a1 a2 w H locs ∧ k_R a1 a2 w) (hl : lv_has ls 4 (k_lv b a1 a2 i)) (hi : i + 7 ≤ L) (hcb : cells + 26 ≤ 600000) (hsb : slots + 1584 ≤ 7302250)
    (kk : ∀ (w : cWld) (H : Heap) (locs : List Loc), k_In s D dA a1 a2 w H locs ∧ k_R a1 a2 w → W p l e room_1 s m #[Value.ref b] below meth c H locs (cells + 26) (slots + 1584) Q (F0 m 1989 ls [])) : W p l e room_1 s m #[Value.ref b] below meth c H locs cells slots Q (F0 m 1643 ls []) := by
  have hc0 : cells ≤ 600000 := by omega
  have hs0 : slots ≤ 7302250 := by omega
  have hc1 := hcb
  have hs1 := hsb
  obtain ⟨I, hR⟩ := I
  refine lv_aload_n C.1 C.2.1 k_L1643 rfl (lv_at hl 1 rfl) ?_
  refine k_arg C I hl (k := 1) (by omega) k_L1644 k_L1645 k_L1646 (by decide) k_L1647 k_L1648 ?_
  refine k_arg C I hl (k := 2) (by omega) k_L1649 k_L1650 k_L1651 (by decide) k_L1652 k_L1653 ?_
  refine k_pub C I (a := 184) (idx := 197) (M := k_M184) (ct := k_c184_0) rfl k_pm184_0 rfl (k_in 6 22 rfl rfl) (by decide +kernel) (x := a1) (As := [.int (xs (i + 1)), .int (xs (i + 2))]) (rest := []) [(a1 : Int), ((xs (i + 1))).toInt, ((xs (i + 2))).toInt] (k_preC 0 rfl (by decide +kernel) ⟨k_aR I.2.2.2.2.1, k_aI _, k_aI _, trivial⟩ trivial) (Nat.le_of_ble_eq_true rfl) k_L1654 hc0 hs0 hl.1 (fun rv1 rs1 w1 H1 lo1 hv1 hp1 I1 => ?_)
  obtain ⟨r1, rfl, rfl⟩ := hv1
  have hR := k_RK hp1.1 (by decide +kernel) (by decide +kernel) hR
  refine lv_pop C.1 C.2.1 k_L1657 rfl ?_
  refine lv_aload_n C.1 C.2.1 k_L1658 rfl (lv_at hl 2 rfl) ?_
  refine k_arg C I1 hl (k := 1) (by omega) k_L1659 k_L1660 k_L1661 (by decide) k_L1662 k_L1663 ?_
  refine k_arg C I1 hl (k := 2) (by omega) k_L1664 k_L1665 k_L1666 (by decide) k_L1667 k_L1668 ?_
  refine k_pub C I1 (a := 314) (idx := 200) (M := k_M314) (ct := k_c314_0) rfl k_pm314_0 rfl (k_in 9 218 rfl rfl) (by decide +kernel) (x := a2) (As := [.int (xs (i + 1)), .int (xs (i + 2))]) (rest := []) [(a2 : Int), ((xs (i + 1))).toInt, ((xs (i + 2))).toInt, 0] (k_preC 4 rfl (by decide +kernel) ⟨k_aR I1.2.2.2.2.2.1, k_aI _, k_aI _, trivial⟩ ⟨k_ghc I1.2.2.2.2.2.2 rfl, trivial⟩) (Nat.le_of_ble_eq_true rfl) k_L1669 hc0 hs0 hl.1 (fun rv2 rs2 w2 H2 lo2 hv2 hp2 I2 => ?_)
  obtain ⟨r2, rfl, rfl⟩ := hv2
  have hR := k_RK hp2.1 (by decide +kernel) (by decide +kernel) hR
  refine lv_pop C.1 C.2.1 k_L1672 rfl ?_
  refine lv_goto C.1 C.2.1 k_L1673 (tgt := 1989) (by decide) ?_
  exact W.widen (Nat.le_add_right _ _) (Nat.le_add_right _ _) (kk _ _ _ ⟨I2, hR⟩)
theorem k_case42 {p : Program} {l : Launch} {e : Env} {s : State} {m : MethodId} {below : List Frame} {meth : Method} {c : Code} {Q : State → Prop} {b L : Nat} {xs : Nat → Int32} {D : va_G} {dA : Nat → ClassId} {a1 a2 i cells slots : Nat} {ls : Array Slot} {w : cWld} {H : Heap} {locs : List Loc} (C : k_Cx p s m c b L xs D dA) (I : k_In s D dA a1 a2 w H locs ∧ k_R a1 a2 w) (hl : lv_has ls 4 (k_lv b a1 a2 i)) (hi : i + 7 ≤ L) (hcb : cells + 26 ≤ 600000) (hsb : slots + 1584 ≤ 7302250)
    (kk : ∀ (w : cWld) (H : Heap) (locs : List Loc), k_In s D dA a1 a2 w H locs ∧ k_R a1 a2 w → W p l e room_1 s m #[Value.ref b] below meth c H locs (cells + 26) (slots + 1584) Q (F0 m 1989 ls [])) : W p l e room_1 s m #[Value.ref b] below meth c H locs cells slots Q (F0 m 1676 ls []) := by
  have hc0 : cells ≤ 600000 := by omega
  have hs0 : slots ≤ 7302250 := by omega
  have hc1 := hcb
  have hs1 := hsb
  obtain ⟨I, hR⟩ := I
  refine lv_aload_n C.1 C.2.1 k_L1676 rfl (lv_at hl 1 rfl) ?_
  refine k_arg C I hl (k := 1) (by omega) k_L1677 k_L1678 k_L1679 (by decide) k_L1680 k_L1681 ?_
  refine k_arg C I hl (k := 2) (by omega) k_L1682 k_L1683 k_L1684 (by decide) k_L1685 k_L1686 ?_
  refine k_arg C I hl (k := 3) (by omega) k_L1687 k_L1688 k_L1689 (by decide) k_L1690 k_L1691 ?_
  refine k_arg C I hl (k := 4) (by omega) k_L1692 k_L1693 k_L1694 (by decide) k_L1695 k_L1696 ?_
  refine k_arg C I hl (k := 5) (by omega) k_L1697 k_L1698 k_L1699 (by decide) k_L1700 k_L1701 ?_
  refine k_pub C I (a := 186) (idx := 201) (M := k_M186) (ct := k_c186_0) rfl k_pm186_0 rfl (k_in 6 39 rfl rfl) (by decide +kernel) (x := a1) (As := [.int (xs (i + 1)), .int (xs (i + 2)), .int (xs (i + 3)), .int (xs (i + 4)), .int (xs (i + 5))]) (rest := []) [(a1 : Int), ((xs (i + 1))).toInt, ((xs (i + 2))).toInt, ((xs (i + 3))).toInt, ((xs (i + 4))).toInt, ((xs (i + 5))).toInt] (k_preC 0 rfl (by decide +kernel) ⟨k_aR I.2.2.2.2.1, k_aI _, k_aI _, k_aI _, k_aI _, k_aI _, trivial⟩ trivial) (Nat.le_of_ble_eq_true rfl) k_L1702 hc0 hs0 hl.1 (fun rv1 rs1 w1 H1 lo1 hv1 hp1 I1 => ?_)
  obtain ⟨r1, rfl, rfl⟩ := hv1
  have hR := k_RK hp1.1 (by decide +kernel) (by decide +kernel) hR
  refine lv_pop C.1 C.2.1 k_L1705 rfl ?_
  refine lv_aload_n C.1 C.2.1 k_L1706 rfl (lv_at hl 2 rfl) ?_
  refine k_arg C I1 hl (k := 1) (by omega) k_L1707 k_L1708 k_L1709 (by decide) k_L1710 k_L1711 ?_
  refine k_arg C I1 hl (k := 2) (by omega) k_L1712 k_L1713 k_L1714 (by decide) k_L1715 k_L1716 ?_
  refine k_arg C I1 hl (k := 3) (by omega) k_L1717 k_L1718 k_L1719 (by decide) k_L1720 k_L1721 ?_
  refine k_arg C I1 hl (k := 4) (by omega) k_L1722 k_L1723 k_L1724 (by decide) k_L1725 k_L1726 ?_
  refine k_arg C I1 hl (k := 5) (by omega) k_L1727 k_L1728 k_L1729 (by decide) k_L1730 k_L1731 ?_
  refine k_pub C I1 (a := 318) (idx := 204) (M := k_M318) (ct := k_c318_0) rfl k_pm318_0 rfl (k_in 9 231 rfl rfl) (by decide +kernel) (x := a2) (As := [.int (xs (i + 1)), .int (xs (i + 2)), .int (xs (i + 3)), .int (xs (i + 4)), .int (xs (i + 5))]) (rest := []) [(a2 : Int), ((xs (i + 1))).toInt, ((xs (i + 2))).toInt, ((xs (i + 3))).toInt, ((xs (i + 4))).toInt, ((xs (i + 5))).toInt, 0] (k_preC 7 rfl (by decide +kernel) ⟨k_aR I1.2.2.2.2.2.1, k_aI _, k_aI _, k_aI _, k_aI _, k_aI _, trivial⟩ ⟨k_ghc I1.2.2.2.2.2.2 rfl, trivial⟩) (Nat.le_of_ble_eq_true rfl) k_L1732 hc0 hs0 hl.1 (fun rv2 rs2 w2 H2 lo2 hv2 hp2 I2 => ?_)
  obtain ⟨r2, rfl, rfl⟩ := hv2
  have hR := k_RK hp2.1 (by decide +kernel) (by decide +kernel) hR
  refine lv_pop C.1 C.2.1 k_L1735 rfl ?_
  refine lv_goto C.1 C.2.1 k_L1736 (tgt := 1989) (by decide) ?_
  exact W.widen (Nat.le_add_right _ _) (Nat.le_add_right _ _) (kk _ _ _ ⟨I2, hR⟩)
theorem k_case43 {p : Program} {l : Launch} {e : Env} {s : State} {m : MethodId} {below : List Frame} {meth : Method} {c : Code} {Q : State → Prop} {b L : Nat} {xs : Nat → Int32} {D : va_G} {dA : Nat → ClassId} {a1 a2 i cells slots : Nat} {ls : Array Slot} {w : cWld} {H : Heap} {locs : List Loc} (C : k_Cx p s m c b L xs D dA) (I : k_In s D dA a1 a2 w H locs ∧ k_R a1 a2 w) (hl : lv_has ls 4 (k_lv b a1 a2 i)) (hi : i + 7 ≤ L) (hcb : cells + 26 ≤ 600000) (hsb : slots + 1584 ≤ 7302250)
    (kk : ∀ (w : cWld) (H : Heap) (locs : List Loc), k_In s D dA a1 a2 w H locs ∧ k_R a1 a2 w → W p l e room_1 s m #[Value.ref b] below meth c H locs (cells + 26) (slots + 1584) Q (F0 m 1989 ls [])) : W p l e room_1 s m #[Value.ref b] below meth c H locs cells slots Q (F0 m 1739 ls []) := by
  have hc0 : cells ≤ 600000 := by omega
  have hs0 : slots ≤ 7302250 := by omega
  have hc1 := hcb
  have hs1 := hsb
  obtain ⟨I, hR⟩ := I
  refine lv_aload_n C.1 C.2.1 k_L1739 rfl (lv_at hl 1 rfl) ?_
  refine k_arg C I hl (k := 1) (by omega) k_L1740 k_L1741 k_L1742 (by decide) k_L1743 k_L1744 ?_
  refine k_arg C I hl (k := 2) (by omega) k_L1745 k_L1746 k_L1747 (by decide) k_L1748 k_L1749 ?_
  refine k_arg C I hl (k := 3) (by omega) k_L1750 k_L1751 k_L1752 (by decide) k_L1753 k_L1754 ?_
  refine k_arg C I hl (k := 4) (by omega) k_L1755 k_L1756 k_L1757 (by decide) k_L1758 k_L1759 ?_
  refine k_arg C I hl (k := 5) (by omega) k_L1760 k_L1761 k_L1762 (by decide) k_L1763 k_L1764 ?_
  refine k_pub C I (a := 188) (idx := 205) (M := k_M188) (ct := k_c188_0) rfl k_pm188_0 rfl (k_in 6 68 rfl rfl) (by decide +kernel) (x := a1) (As := [.int (xs (i + 1)), .int (xs (i + 2)), .int (xs (i + 3)), .int (xs (i + 4)), .int (xs (i + 5))]) (rest := []) [(a1 : Int), ((xs (i + 1))).toInt, ((xs (i + 2))).toInt, ((xs (i + 3))).toInt, ((xs (i + 4))).toInt, ((xs (i + 5))).toInt] (k_preC 0 rfl (by decide +kernel) ⟨k_aR I.2.2.2.2.1, k_aI _, k_aI _, k_aI _, k_aI _, k_aI _, trivial⟩ trivial) (Nat.le_of_ble_eq_true rfl) k_L1765 hc0 hs0 hl.1 (fun rv1 rs1 w1 H1 lo1 hv1 hp1 I1 => ?_)
  obtain ⟨r1, rfl, rfl, -, -⟩ := hv1
  have hR := k_RK hp1.1 (by decide +kernel) (by decide +kernel) hR
  refine lv_pop C.1 C.2.1 k_L1768 rfl ?_
  refine lv_aload_n C.1 C.2.1 k_L1769 rfl (lv_at hl 2 rfl) ?_
  refine k_arg C I1 hl (k := 1) (by omega) k_L1770 k_L1771 k_L1772 (by decide) k_L1773 k_L1774 ?_
  refine k_arg C I1 hl (k := 2) (by omega) k_L1775 k_L1776 k_L1777 (by decide) k_L1778 k_L1779 ?_
  refine k_arg C I1 hl (k := 3) (by omega) k_L1780 k_L1781 k_L1782 (by decide) k_L1783 k_L1784 ?_
  refine k_arg C I1 hl (k := 4) (by omega) k_L1785 k_L1786 k_L1787 (by decide) k_L1788 k_L1789 ?_
  refine k_arg C I1 hl (k := 5) (by omega) k_L1790 k_L1791 k_L1792 (by decide) k_L1793 k_L1794 ?_
  refine k_pub C I1 (a := 319) (idx := 208) (M := k_M319) (ct := k_c319_0) rfl k_pm319_0 rfl (k_in 10 9 rfl rfl) (by decide +kernel) (x := a2) (As := [.int (xs (i + 1)), .int (xs (i + 2)), .int (xs (i + 3)), .int (xs (i + 4)), .int (xs (i + 5))]) (rest := []) [(a2 : Int), ((xs (i + 1))).toInt, ((xs (i + 2))).toInt, ((xs (i + 3))).toInt, ((xs (i + 4))).toInt, ((xs (i + 5))).toInt, 0] (k_preC 7 rfl (by decide +kernel) ⟨k_aR I1.2.2.2.2.2.1, k_aI _, k_aI _, k_aI _, k_aI _, k_aI _, trivial⟩ ⟨k_ghc I1.2.2.2.2.2.2 rfl, trivial⟩) (Nat.le_of_ble_eq_true rfl) k_L1795 hc0 hs0 hl.1 (fun rv2 rs2 w2 H2 lo2 hv2 hp2 I2 => ?_)
  obtain ⟨r2, rfl, rfl, -, -⟩ := hv2
  have hR := k_RK hp2.1 (by decide +kernel) (by decide +kernel) hR
  refine lv_pop C.1 C.2.1 k_L1798 rfl ?_
  refine lv_goto C.1 C.2.1 k_L1799 (tgt := 1989) (by decide) ?_
  exact W.widen (Nat.le_add_right _ _) (Nat.le_add_right _ _) (kk _ _ _ ⟨I2, hR⟩)
theorem k_case44 {p : Program} {l : Launch} {e : Env} {s : State} {m : MethodId} {below : List Frame} {meth : Method} {c : Code} {Q : State → Prop} {b L : Nat} {xs : Nat → Int32} {D : va_G} {dA : Nat → ClassId} {a1 a2 i cells slots : Nat} {ls : Array Slot} {w : cWld} {H : Heap} {locs : List Loc} (C : k_Cx p s m c b L xs D dA) (I : k_In s D dA a1 a2 w H locs ∧ k_R a1 a2 w) (hl : lv_has ls 4 (k_lv b a1 a2 i)) (hi : i + 7 ≤ L) (hcb : cells + 26 ≤ 600000) (hsb : slots + 1584 ≤ 7302250)
    (kk : ∀ (w : cWld) (H : Heap) (locs : List Loc), k_In s D dA a1 a2 w H locs ∧ k_R a1 a2 w → W p l e room_1 s m #[Value.ref b] below meth c H locs (cells + 26) (slots + 1584) Q (F0 m 1989 ls [])) : W p l e room_1 s m #[Value.ref b] below meth c H locs cells slots Q (F0 m 1802 ls []) := by
  have hc0 : cells ≤ 600000 := by omega
  have hs0 : slots ≤ 7302250 := by omega
  have hc1 := hcb
  have hs1 := hsb
  obtain ⟨I, n, tp, tm, rd, ke, f, hn6, hf, hTC, hTM, hY⟩ := I
  refine lv_aload_n C.1 C.2.1 k_L1802 rfl (lv_at hl 1 rfl) ?_
  refine k_arg C I hl (k := 1) (by omega) k_L1803 k_L1804 k_L1805 (by decide) k_L1806 k_L1807 ?_
  refine k_pub C I (a := 190) (idx := 209) (M := k_M190) (ct := k_c190_0) rfl k_pm190_0 rfl (k_in 6 73 rfl rfl) (by decide +kernel) (x := a1) (As := [.int (xs (i + 1))]) (rest := []) [(a1 : Int), ((xs (i + 1))).toInt, (n : Int)] (k_preC 0 rfl (by decide +kernel) ⟨k_aR I.2.2.2.2.1, k_aI _, trivial⟩ ⟨k_fnC (b := 0) hTC.1 rfl rfl, trivial⟩) (Nat.le_of_ble_eq_true rfl) k_L1808 hc0 hs0 hl.1 (fun rv1 rs1 w1 H1 lo1 hv1 hp1 I1 => ?_)
  obtain ⟨r1, rfl, rfl⟩ := hv1
  obtain ⟨n1, hn1, hq1⟩ := k_waysC hp1 I1.2.2.2.2.1
  have hTMb := k_TpK hp1.1 (by decide +kernel) (by decide) (by decide) (by decide +kernel) hTM
  have hYb := k_KyK hp1.1 (by decide +kernel) (by decide +kernel) hY
  have hTCb := k_TbK hp1.1 (by decide +kernel) (by decide) (by decide) (by decide +kernel) (k_Tb_of hTC)
  refine lv_pop C.1 C.2.1 k_L1811 rfl ?_
  refine lv_aload_n C.1 C.2.1 k_L1812 rfl (lv_at hl 2 rfl) ?_
  refine k_arg C I1 hl (k := 1) (by omega) k_L1813 k_L1814 k_L1815 (by decide) k_L1816 k_L1817 ?_
  refine k_pub C I1 (a := 325) (idx := 212) (M := k_M325) (ct := k_c325_0) rfl k_pm325_0 rfl (k_in 10 13 rfl rfl) (by decide +kernel) (x := a2) (As := [.int (xs (i + 1))]) (rest := []) [(a2 : Int), ((xs (i + 1))).toInt, (n : Int)] (k_preC 0 rfl (by decide +kernel) ⟨k_aR I1.2.2.2.2.2.1, k_aI _, trivial⟩ ⟨k_fnC (b := 0) hTMb.1 rfl rfl, trivial⟩) (Nat.le_of_ble_eq_true rfl) k_L1818 hc0 hs0 hl.1 (fun rv2 rs2 w2 H2 lo2 hv2 hp2 I2 => ?_)
  obtain ⟨r2, rfl, rfl⟩ := hv2
  obtain ⟨n2, hn2, hq2⟩ := k_waysM hp2 I2.2.2.2.2.2.1
  have hn1b := k_fnK hp2.1 (by decide +kernel) (by decide) (by decide +kernel) hn1
  have hYc := k_KyK hp2.1 (by decide +kernel) (by decide +kernel) hYb
  have hTCc := k_TbK hp2.1 (by decide +kernel) (by decide) (by decide) (by decide +kernel) hTCb
  have hTMc := k_TbK hp2.1 (by decide +kernel) (by decide) (by decide) (by decide +kernel) (k_Tb_of hTMb)
  obtain ⟨hzz, n', hn', hle⟩ : n1 = n2 ∧ ∃ n' : Nat, n1 = (n' : Int) ∧ n' ≤ n := ⟨by omega, n1.toNat, by omega, by omega⟩
  rw [hn'] at hn1b
  rw [← hzz, hn'] at hn2
  have hRn : k_R a1 a2 w2 := ⟨n', tp, tm, rd, ke, f, by omega, hf, k_Tp_of hTCc hle hn1b, k_Tp_of hTMc hle hn2, hYc⟩
  refine lv_pop C.1 C.2.1 k_L1821 rfl ?_
  refine lv_goto C.1 C.2.1 k_L1822 (tgt := 1989) (by decide) ?_
  exact W.widen (Nat.le_add_right _ _) (Nat.le_add_right _ _) (kk _ _ _ ⟨I2, hRn⟩)
theorem k_case45 {p : Program} {l : Launch} {e : Env} {s : State} {m : MethodId} {below : List Frame} {meth : Method} {c : Code} {Q : State → Prop} {b L : Nat} {xs : Nat → Int32} {D : va_G} {dA : Nat → ClassId} {a1 a2 i cells slots : Nat} {ls : Array Slot} {w : cWld} {H : Heap} {locs : List Loc} (C : k_Cx p s m c b L xs D dA) (I : k_In s D dA a1 a2 w H locs ∧ k_R a1 a2 w) (hl : lv_has ls 4 (k_lv b a1 a2 i)) (hi : i + 7 ≤ L) (hcb : cells + 26 ≤ 600000) (hsb : slots + 1584 ≤ 7302250)
    (kk : ∀ (w : cWld) (H : Heap) (locs : List Loc), k_In s D dA a1 a2 w H locs ∧ k_R a1 a2 w → W p l e room_1 s m #[Value.ref b] below meth c H locs (cells + 26) (slots + 1584) Q (F0 m 1989 ls [])) : W p l e room_1 s m #[Value.ref b] below meth c H locs cells slots Q (F0 m 1825 ls []) := by
  have hc0 : cells ≤ 600000 := by omega
  have hs0 : slots ≤ 7302250 := by omega
  have hc1 := hcb
  have hs1 := hsb
  obtain ⟨I, hR⟩ := I
  refine lv_aload_n C.1 C.2.1 k_L1825 rfl (lv_at hl 1 rfl) ?_
  refine k_arg C I hl (k := 1) (by omega) k_L1826 k_L1827 k_L1828 (by decide) k_L1829 k_L1830 ?_
  refine k_pub C I (a := 191) (idx := 213) (M := k_M191) (ct := k_c191_0) rfl k_pm191_0 rfl (k_in 6 118 rfl rfl) (by decide +kernel) (x := a1) (As := [.int (xs (i + 1))]) (rest := []) [(a1 : Int), ((xs (i + 1))).toInt] (k_preC 0 rfl (by decide +kernel) ⟨k_aR I.2.2.2.2.1, k_aI _, trivial⟩ trivial) (Nat.le_of_ble_eq_true rfl) k_L1831 hc0 hs0 hl.1 (fun rv1 rs1 w1 H1 lo1 hv1 hp1 I1 => ?_)
  obtain ⟨r1, rfl, rfl⟩ := hv1
  have hR := k_RK hp1.1 (by decide +kernel) (by decide +kernel) hR
  refine lv_pop C.1 C.2.1 k_L1834 rfl ?_
  refine lv_aload_n C.1 C.2.1 k_L1835 rfl (lv_at hl 2 rfl) ?_
  refine k_arg C I1 hl (k := 1) (by omega) k_L1836 k_L1837 k_L1838 (by decide) k_L1839 k_L1840 ?_
  refine k_pub C I1 (a := 331) (idx := 216) (M := k_M331) (ct := k_c331_0) rfl k_pm331_0 rfl (k_in 10 38 rfl rfl) (by decide +kernel) (x := a2) (As := [.int (xs (i + 1))]) (rest := []) [(a2 : Int), ((xs (i + 1))).toInt, 0] (k_preC 3 rfl (by decide +kernel) ⟨k_aR I1.2.2.2.2.2.1, k_aI _, trivial⟩ ⟨k_ghc I1.2.2.2.2.2.2 rfl, trivial⟩) (Nat.le_of_ble_eq_true rfl) k_L1841 hc0 hs0 hl.1 (fun rv2 rs2 w2 H2 lo2 hv2 hp2 I2 => ?_)
  obtain ⟨r2, rfl, rfl⟩ := hv2
  have hR := k_RK hp2.1 (by decide +kernel) (by decide +kernel) hR
  refine lv_pop C.1 C.2.1 k_L1844 rfl ?_
  refine lv_goto C.1 C.2.1 k_L1845 (tgt := 1989) (by decide) ?_
  exact W.widen (Nat.le_add_right _ _) (Nat.le_add_right _ _) (kk _ _ _ ⟨I2, hR⟩)
theorem k_case46 {p : Program} {l : Launch} {e : Env} {s : State} {m : MethodId} {below : List Frame} {meth : Method} {c : Code} {Q : State → Prop} {b L : Nat} {xs : Nat → Int32} {D : va_G} {dA : Nat → ClassId} {a1 a2 i cells slots : Nat} {ls : Array Slot} {w : cWld} {H : Heap} {locs : List Loc} (C : k_Cx p s m c b L xs D dA) (I : k_In s D dA a1 a2 w H locs ∧ k_R a1 a2 w) (hl : lv_has ls 4 (k_lv b a1 a2 i)) (hi : i + 7 ≤ L) (hcb : cells + 26 ≤ 600000) (hsb : slots + 1584 ≤ 7302250)
    (kk : ∀ (w : cWld) (H : Heap) (locs : List Loc), k_In s D dA a1 a2 w H locs ∧ k_R a1 a2 w → W p l e room_1 s m #[Value.ref b] below meth c H locs (cells + 26) (slots + 1584) Q (F0 m 1989 ls [])) : W p l e room_1 s m #[Value.ref b] below meth c H locs cells slots Q (F0 m 1848 ls []) := by
  have hc0 : cells ≤ 600000 := by omega
  have hs0 : slots ≤ 7302250 := by omega
  have hc1 := hcb
  have hs1 := hsb
  obtain ⟨I, hR⟩ := I
  refine lv_aload_n C.1 C.2.1 k_L1848 rfl (lv_at hl 1 rfl) ?_
  refine k_arg C I hl (k := 1) (by omega) k_L1849 k_L1850 k_L1851 (by decide) k_L1852 k_L1853 ?_
  refine k_pub C I (a := 192) (idx := 217) (M := k_M192) (ct := k_c192_0) rfl k_pm192_0 rfl (k_in 6 163 rfl rfl) (by decide +kernel) (x := a1) (As := [.int (xs (i + 1))]) (rest := []) [(a1 : Int), ((xs (i + 1))).toInt] (k_preC 0 rfl (by decide +kernel) ⟨k_aR I.2.2.2.2.1, k_aI _, trivial⟩ trivial) (Nat.le_of_ble_eq_true rfl) k_L1854 hc0 hs0 hl.1 (fun rv1 rs1 w1 H1 lo1 hv1 hp1 I1 => ?_)
  obtain ⟨r1, rfl, rfl⟩ := hv1
  have hR := k_RK hp1.1 (by decide +kernel) (by decide +kernel) hR
  refine lv_pop C.1 C.2.1 k_L1857 rfl ?_
  refine lv_aload_n C.1 C.2.1 k_L1858 rfl (lv_at hl 2 rfl) ?_
  refine k_arg C I1 hl (k := 1) (by omega) k_L1859 k_L1860 k_L1861 (by decide) k_L1862 k_L1863 ?_
  refine k_pub C I1 (a := 332) (idx := 220) (M := k_M332) (ct := k_c332_0) rfl k_pm332_0 rfl (k_in 10 62 rfl rfl) (by decide +kernel) (x := a2) (As := [.int (xs (i + 1))]) (rest := []) [(a2 : Int), ((xs (i + 1))).toInt] (k_preC 0 rfl (by decide +kernel) ⟨k_aR I1.2.2.2.2.2.1, k_aI _, trivial⟩ trivial) (Nat.le_of_ble_eq_true rfl) k_L1864 hc0 hs0 hl.1 (fun rv2 rs2 w2 H2 lo2 hv2 hp2 I2 => ?_)
  obtain ⟨r2, rfl, rfl⟩ := hv2
  have hR := k_RK hp2.1 (by decide +kernel) (by decide +kernel) hR
  refine lv_pop C.1 C.2.1 k_L1867 rfl ?_
  refine lv_goto C.1 C.2.1 k_L1868 (tgt := 1989) (by decide) ?_
  exact W.widen (Nat.le_add_right _ _) (Nat.le_add_right _ _) (kk _ _ _ ⟨I2, hR⟩)
theorem k_case47 {p : Program} {l : Launch} {e : Env} {s : State} {m : MethodId} {below : List Frame} {meth : Method} {c : Code} {Q : State → Prop} {b L : Nat} {xs : Nat → Int32} {D : va_G} {dA : Nat → ClassId} {a1 a2 i cells slots : Nat} {ls : Array Slot} {w : cWld} {H : Heap} {locs : List Loc} (C : k_Cx p s m c b L xs D dA) (I : k_In s D dA a1 a2 w H locs ∧ k_R a1 a2 w) (hl : lv_has ls 4 (k_lv b a1 a2 i)) (hi : i + 7 ≤ L) (hcb : cells + 26 ≤ 600000) (hsb : slots + 1584 ≤ 7302250)
    (kk : ∀ (w : cWld) (H : Heap) (locs : List Loc), k_In s D dA a1 a2 w H locs ∧ k_R a1 a2 w → W p l e room_1 s m #[Value.ref b] below meth c H locs (cells + 26) (slots + 1584) Q (F0 m 1989 ls [])) : W p l e room_1 s m #[Value.ref b] below meth c H locs cells slots Q (F0 m 1871 ls []) := by
  have hc0 : cells ≤ 600000 := by omega
  have hs0 : slots ≤ 7302250 := by omega
  have hc1 := hcb
  have hs1 := hsb
  obtain ⟨I, n, tp, tm, rd, ke, f, hn6, hf, hTC, hTM, hY⟩ := I
  refine lv_aload_n C.1 C.2.1 k_L1871 rfl (lv_at hl 1 rfl) ?_
  refine k_arg C I hl (k := 1) (by omega) k_L1872 k_L1873 k_L1874 (by decide) k_L1875 k_L1876 ?_
  refine k_pub C I (a := 193) (idx := 221) (M := k_M193) (ct := k_c193_0) rfl k_pm193_0 rfl (k_in 6 167 rfl rfl) (by decide +kernel) (x := a1) (As := [.int (xs (i + 1))]) (rest := []) [(a1 : Int), ((xs (i + 1))).toInt, (n : Int)] (k_preC 0 rfl (by decide +kernel) ⟨k_aR I.2.2.2.2.1, k_aI _, trivial⟩ ⟨k_fnC (b := 0) hTC.1 rfl rfl, trivial⟩) (Nat.le_of_ble_eq_true rfl) k_L1877 hc0 hs0 hl.1 (fun rv1 rs1 w1 H1 lo1 hv1 hp1 I1 => ?_)
  obtain ⟨r1, rfl, rfl⟩ := hv1
  obtain ⟨n1, hn1, hq1⟩ := k_lineC hp1 I1.2.2.2.2.1
  have hTMb := k_TpK hp1.1 (by decide +kernel) (by decide) (by decide) (by decide +kernel) hTM
  have hYb := k_KyK hp1.1 (by decide +kernel) (by decide +kernel) hY
  have hTCb := k_TbK hp1.1 (by decide +kernel) (by decide) (by decide) (by decide +kernel) (k_Tb_of hTC)
  refine lv_pop C.1 C.2.1 k_L1880 rfl ?_
  refine lv_aload_n C.1 C.2.1 k_L1881 rfl (lv_at hl 2 rfl) ?_
  refine k_arg C I1 hl (k := 1) (by omega) k_L1882 k_L1883 k_L1884 (by decide) k_L1885 k_L1886 ?_
  refine k_pub C I1 (a := 346) (idx := 224) (M := k_M346) (ct := k_c346_0) rfl k_pm346_0 rfl (k_in 10 66 rfl rfl) (by decide +kernel) (x := a2) (As := [.int (xs (i + 1))]) (rest := []) [(a2 : Int), ((xs (i + 1))).toInt, 0, (n : Int)] (k_preC 3 rfl (by decide +kernel) ⟨k_aR I1.2.2.2.2.2.1, k_aI _, trivial⟩ ⟨k_ghc I1.2.2.2.2.2.2 rfl, k_fnC (b := 0) hTMb.1 rfl rfl, trivial⟩) (Nat.le_of_ble_eq_true rfl) k_L1887 hc0 hs0 hl.1 (fun rv2 rs2 w2 H2 lo2 hv2 hp2 I2 => ?_)
  obtain ⟨r2, rfl, rfl⟩ := hv2
  obtain ⟨n2, hn2, hq2⟩ := k_lineM hp2 I2.2.2.2.2.2.1
  have hn1b := k_fnK hp2.1 (by decide +kernel) (by decide) (by decide +kernel) hn1
  have hYc := k_KyK hp2.1 (by decide +kernel) (by decide +kernel) hYb
  have hTCc := k_TbK hp2.1 (by decide +kernel) (by decide) (by decide) (by decide +kernel) hTCb
  have hTMc := k_TbK hp2.1 (by decide +kernel) (by decide) (by decide) (by decide +kernel) (k_Tb_of hTMb)
  obtain ⟨hzz, n', hn', hle⟩ : n1 = n2 ∧ ∃ n' : Nat, n1 = (n' : Int) ∧ n' ≤ n := ⟨by omega, n1.toNat, by omega, by omega⟩
  rw [hn'] at hn1b
  rw [← hzz, hn'] at hn2
  have hRn : k_R a1 a2 w2 := ⟨n', tp, tm, rd, ke, f, by omega, hf, k_Tp_of hTCc hle hn1b, k_Tp_of hTMc hle hn2, hYc⟩
  refine lv_pop C.1 C.2.1 k_L1890 rfl ?_
  refine lv_goto C.1 C.2.1 k_L1891 (tgt := 1989) (by decide) ?_
  exact W.widen (Nat.le_add_right _ _) (Nat.le_add_right _ _) (kk _ _ _ ⟨I2, hRn⟩)
theorem k_case48 {p : Program} {l : Launch} {e : Env} {s : State} {m : MethodId} {below : List Frame} {meth : Method} {c : Code} {Q : State → Prop} {b L : Nat} {xs : Nat → Int32} {D : va_G} {dA : Nat → ClassId} {a1 a2 i cells slots : Nat} {ls : Array Slot} {w : cWld} {H : Heap} {locs : List Loc} (C : k_Cx p s m c b L xs D dA) (I : k_In s D dA a1 a2 w H locs ∧ k_R a1 a2 w) (hl : lv_has ls 4 (k_lv b a1 a2 i)) (hi : i + 7 ≤ L) (hcb : cells + 26 ≤ 600000) (hsb : slots + 1584 ≤ 7302250)
    (kk : ∀ (w : cWld) (H : Heap) (locs : List Loc), k_In s D dA a1 a2 w H locs ∧ k_R a1 a2 w → W p l e room_1 s m #[Value.ref b] below meth c H locs (cells + 26) (slots + 1584) Q (F0 m 1989 ls [])) : W p l e room_1 s m #[Value.ref b] below meth c H locs cells slots Q (F0 m 1894 ls []) := by
  have hc0 : cells ≤ 600000 := by omega
  have hs0 : slots ≤ 7302250 := by omega
  have hc1 := hcb
  have hs1 := hsb
  obtain ⟨I, hR⟩ := I
  refine lv_aload_n C.1 C.2.1 k_L1894 rfl (lv_at hl 1 rfl) ?_
  refine k_arg C I hl (k := 1) (by omega) k_L1895 k_L1896 k_L1897 (by decide) k_L1898 k_L1899 ?_
  refine k_pub C I (a := 195) (idx := 225) (M := k_M195) (ct := k_c195_0) rfl k_pm195_0 rfl (k_in 6 207 rfl rfl) (by decide +kernel) (x := a1) (As := [.int (xs (i + 1))]) (rest := []) [(a1 : Int), ((xs (i + 1))).toInt] (k_preC 0 rfl (by decide +kernel) ⟨k_aR I.2.2.2.2.1, k_aI _, trivial⟩ trivial) (Nat.le_of_ble_eq_true rfl) k_L1900 hc0 hs0 hl.1 (fun rv1 rs1 w1 H1 lo1 hv1 hp1 I1 => ?_)
  obtain ⟨r1, rfl, rfl⟩ := hv1
  have hR := k_RK hp1.1 (by decide +kernel) (by decide +kernel) hR
  refine lv_pop C.1 C.2.1 k_L1903 rfl ?_
  refine lv_aload_n C.1 C.2.1 k_L1904 rfl (lv_at hl 2 rfl) ?_
  refine k_arg C I1 hl (k := 1) (by omega) k_L1905 k_L1906 k_L1907 (by decide) k_L1908 k_L1909 ?_
  refine k_pub C I1 (a := 349) (idx := 228) (M := k_M349) (ct := k_c349_0) rfl k_pm349_0 rfl (k_in 10 122 rfl rfl) (by decide +kernel) (x := a2) (As := [.int (xs (i + 1))]) (rest := []) [(a2 : Int), ((xs (i + 1))).toInt, 0] (k_preC 3 rfl (by decide +kernel) ⟨k_aR I1.2.2.2.2.2.1, k_aI _, trivial⟩ ⟨k_ghc I1.2.2.2.2.2.2 rfl, trivial⟩) (Nat.le_of_ble_eq_true rfl) k_L1910 hc0 hs0 hl.1 (fun rv2 rs2 w2 H2 lo2 hv2 hp2 I2 => ?_)
  obtain ⟨r2, rfl, rfl⟩ := hv2
  have hR := k_RK hp2.1 (by decide +kernel) (by decide +kernel) hR
  refine lv_pop C.1 C.2.1 k_L1913 rfl ?_
  refine lv_goto C.1 C.2.1 k_L1914 (tgt := 1989) (by decide) ?_
  exact W.widen (Nat.le_add_right _ _) (Nat.le_add_right _ _) (kk _ _ _ ⟨I2, hR⟩)
theorem k_case49 {p : Program} {l : Launch} {e : Env} {s : State} {m : MethodId} {below : List Frame} {meth : Method} {c : Code} {Q : State → Prop} {b L : Nat} {xs : Nat → Int32} {D : va_G} {dA : Nat → ClassId} {a1 a2 i cells slots : Nat} {ls : Array Slot} {w : cWld} {H : Heap} {locs : List Loc} (C : k_Cx p s m c b L xs D dA) (I : k_In s D dA a1 a2 w H locs ∧ k_R a1 a2 w) (hl : lv_has ls 4 (k_lv b a1 a2 i)) (hi : i + 7 ≤ L) (hcb : cells + 26 ≤ 600000) (hsb : slots + 1584 ≤ 7302250)
    (kk : ∀ (w : cWld) (H : Heap) (locs : List Loc), k_In s D dA a1 a2 w H locs ∧ k_R a1 a2 w → W p l e room_1 s m #[Value.ref b] below meth c H locs (cells + 26) (slots + 1584) Q (F0 m 1989 ls [])) : W p l e room_1 s m #[Value.ref b] below meth c H locs cells slots Q (F0 m 1917 ls []) := by
  have hc0 : cells ≤ 600000 := by omega
  have hs0 : slots ≤ 7302250 := by omega
  have hc1 := hcb
  have hs1 := hsb
  obtain ⟨I, hR⟩ := I
  refine lv_aload_n C.1 C.2.1 k_L1917 rfl (lv_at hl 1 rfl) ?_
  refine k_arg C I hl (k := 1) (by omega) k_L1918 k_L1919 k_L1920 (by decide) k_L1921 k_L1922 ?_
  refine k_pub C I (a := 196) (idx := 229) (M := k_M196) (ct := k_c196_0) rfl k_pm196_0 rfl (k_in 7 16 rfl rfl) (by decide +kernel) (x := a1) (As := [.int (xs (i + 1))]) (rest := []) [(a1 : Int), ((xs (i + 1))).toInt] (k_preC 0 rfl (by decide +kernel) ⟨k_aR I.2.2.2.2.1, k_aI _, trivial⟩ trivial) (Nat.le_of_ble_eq_true rfl) k_L1923 hc0 hs0 hl.1 (fun rv1 rs1 w1 H1 lo1 hv1 hp1 I1 => ?_)
  obtain ⟨r1, rfl, rfl⟩ := hv1
  have hR := k_RK hp1.1 (by decide +kernel) (by decide +kernel) hR
  refine lv_pop C.1 C.2.1 k_L1926 rfl ?_
  refine lv_aload_n C.1 C.2.1 k_L1927 rfl (lv_at hl 2 rfl) ?_
  refine k_arg C I1 hl (k := 1) (by omega) k_L1928 k_L1929 k_L1930 (by decide) k_L1931 k_L1932 ?_
  refine k_pub C I1 (a := 352) (idx := 232) (M := k_M352) (ct := k_c352_0) rfl k_pm352_0 rfl (k_in 10 134 rfl rfl) (by decide +kernel) (x := a2) (As := [.int (xs (i + 1))]) (rest := []) [(a2 : Int), ((xs (i + 1))).toInt, 0] (k_preC 3 rfl (by decide +kernel) ⟨k_aR I1.2.2.2.2.2.1, k_aI _, trivial⟩ ⟨k_ghc I1.2.2.2.2.2.2 rfl, trivial⟩) (Nat.le_of_ble_eq_true rfl) k_L1933 hc0 hs0 hl.1 (fun rv2 rs2 w2 H2 lo2 hv2 hp2 I2 => ?_)
  obtain ⟨r2, rfl, rfl⟩ := hv2
  have hR := k_RK hp2.1 (by decide +kernel) (by decide +kernel) hR
  refine lv_pop C.1 C.2.1 k_L1936 rfl ?_
  refine lv_goto C.1 C.2.1 k_L1937 (tgt := 1989) (by decide) ?_
  exact W.widen (Nat.le_add_right _ _) (Nat.le_add_right _ _) (kk _ _ _ ⟨I2, hR⟩)
theorem k_case50 {p : Program} {l : Launch} {e : Env} {s : State} {m : MethodId} {below : List Frame} {meth : Method} {c : Code} {Q : State → Prop} {b L : Nat} {xs : Nat → Int32} {D : va_G} {dA : Nat → ClassId} {a1 a2 i cells slots : Nat} {ls : Array Slot} {w : cWld} {H : Heap} {locs : List Loc} (C : k_Cx p s m c b L xs D dA) (I : k_In s D dA a1 a2 w H locs ∧ k_R a1 a2 w) (hl : lv_has ls 4 (k_lv b a1 a2 i)) (hi : i + 7 ≤ L) (hcb : cells + 26 ≤ 600000) (hsb : slots + 1584 ≤ 7302250)
    (kk : ∀ (w : cWld) (H : Heap) (locs : List Loc), k_In s D dA a1 a2 w H locs ∧ k_R a1 a2 w → W p l e room_1 s m #[Value.ref b] below meth c H locs (cells + 26) (slots + 1584) Q (F0 m 1989 ls [])) : W p l e room_1 s m #[Value.ref b] below meth c H locs cells slots Q (F0 m 1940 ls []) := by
  have hc0 : cells ≤ 600000 := by omega
  have hs0 : slots ≤ 7302250 := by omega
  have hc1 := hcb
  have hs1 := hsb
  obtain ⟨I, hR⟩ := I
  refine lv_aload_n C.1 C.2.1 k_L1940 rfl (lv_at hl 1 rfl) ?_
  refine k_arg C I hl (k := 1) (by omega) k_L1941 k_L1942 k_L1943 (by decide) k_L1944 k_L1945 ?_
  refine k_pub C I (a := 197) (idx := 233) (M := k_M197) (ct := k_c197_0) rfl k_pm197_0 rfl (k_in 7 29 rfl rfl) (by decide +kernel) (x := a1) (As := [.int (xs (i + 1))]) (rest := []) [(a1 : Int), ((xs (i + 1))).toInt] (k_preC 0 rfl (by decide +kernel) ⟨k_aR I.2.2.2.2.1, k_aI _, trivial⟩ trivial) (Nat.le_of_ble_eq_true rfl) k_L1946 hc0 hs0 hl.1 (fun rv1 rs1 w1 H1 lo1 hv1 hp1 I1 => ?_)
  obtain ⟨r1, rfl, rfl⟩ := hv1
  have hR := k_RK hp1.1 (by decide +kernel) (by decide +kernel) hR
  refine lv_pop C.1 C.2.1 k_L1949 rfl ?_
  refine lv_aload_n C.1 C.2.1 k_L1950 rfl (lv_at hl 2 rfl) ?_
  refine k_arg C I1 hl (k := 1) (by omega) k_L1951 k_L1952 k_L1953 (by decide) k_L1954 k_L1955 ?_
  refine k_pub C I1 (a := 353) (idx := 236) (M := k_M353) (ct := k_c353_0) rfl k_pm353_0 rfl (k_in 10 146 rfl rfl) (by decide +kernel) (x := a2) (As := [.int (xs (i + 1))]) (rest := []) [(a2 : Int), ((xs (i + 1))).toInt] (k_preC 0 rfl (by decide +kernel) ⟨k_aR I1.2.2.2.2.2.1, k_aI _, trivial⟩ trivial) (Nat.le_of_ble_eq_true rfl) k_L1956 hc0 hs0 hl.1 (fun rv2 rs2 w2 H2 lo2 hv2 hp2 I2 => ?_)
  obtain ⟨r2, rfl, rfl⟩ := hv2
  have hR := k_RK hp2.1 (by decide +kernel) (by decide +kernel) hR
  refine lv_pop C.1 C.2.1 k_L1959 rfl ?_
  refine lv_goto C.1 C.2.1 k_L1960 (tgt := 1989) (by decide) ?_
  exact W.widen (Nat.le_add_right _ _) (Nat.le_add_right _ _) (kk _ _ _ ⟨I2, hR⟩)
theorem k_case51 {p : Program} {l : Launch} {e : Env} {s : State} {m : MethodId} {below : List Frame} {meth : Method} {c : Code} {Q : State → Prop} {b L : Nat} {xs : Nat → Int32} {D : va_G} {dA : Nat → ClassId} {a1 a2 i cells slots : Nat} {ls : Array Slot} {w : cWld} {H : Heap} {locs : List Loc} (C : k_Cx p s m c b L xs D dA) (I : k_In s D dA a1 a2 w H locs ∧ k_R a1 a2 w) (hl : lv_has ls 4 (k_lv b a1 a2 i)) (hi : i + 7 ≤ L) (hcb : cells + 26 ≤ 600000) (hsb : slots + 1584 ≤ 7302250)
    (kk : ∀ (w : cWld) (H : Heap) (locs : List Loc), k_In s D dA a1 a2 w H locs ∧ k_R a1 a2 w → W p l e room_1 s m #[Value.ref b] below meth c H locs (cells + 26) (slots + 1584) Q (F0 m 1989 ls [])) : W p l e room_1 s m #[Value.ref b] below meth c H locs cells slots Q (F0 m 1963 ls []) := by
  have hc0 : cells ≤ 600000 := by omega
  have hs0 : slots ≤ 7302250 := by omega
  have hc1 := hcb
  have hs1 := hsb
  obtain ⟨I, hR⟩ := I
  refine lv_aload_n C.1 C.2.1 k_L1963 rfl (lv_at hl 1 rfl) ?_
  obtain ⟨z1_14, hz1_14⟩ := k_fnE (i := 14) I.2.2.1 I.2.2.2.2.1 k_sh12 (by decide)
  refine k_pub C I (a := 198) (idx := 237) (M := k_M198) (ct := k_c198_0) rfl k_pm198_0 rfl (k_in 7 33 rfl rfl) (by decide +kernel) (x := a1) (As := []) (rest := []) [(a1 : Int), z1_14] (k_preC 0 rfl (by decide +kernel) ⟨k_aR I.2.2.2.2.1, trivial⟩ ⟨k_fnC (b := 0) hz1_14 rfl rfl, trivial⟩) (Nat.le_of_ble_eq_true rfl) k_L1964 hcb hsb hl.1 (fun rv1 rs1 w1 H1 lo1 hv1 hp1 I1 => ?_)
  obtain ⟨r1, rfl, rfl⟩ := hv1
  have hR := k_RK hp1.1 (by decide +kernel) (by decide +kernel) hR
  refine lv_pop C.1 C.2.1 k_L1967 rfl ?_
  refine lv_aload_n C.1 C.2.1 k_L1968 rfl (lv_at hl 2 rfl) ?_
  obtain ⟨z2_25, hz2_25⟩ := k_fnE (i := 25) I1.2.2.1 I1.2.2.2.2.2.1 k_sh13 (by decide)
  refine k_pub C I1 (a := 355) (idx := 240) (M := k_M355) (ct := k_c355_0) rfl k_pm355_0 rfl (k_in 10 150 rfl rfl) (by decide +kernel) (x := a2) (As := []) (rest := []) [(a2 : Int), 0, z2_25] (k_preC 2 rfl (by decide +kernel) ⟨k_aR I1.2.2.2.2.2.1, trivial⟩ ⟨k_ghc I1.2.2.2.2.2.2 rfl, k_fnC (b := 0) hz2_25 rfl rfl, trivial⟩) (Nat.le_of_ble_eq_true rfl) k_L1969 hc1 hs1 hl.1 (fun rv2 rs2 w2 H2 lo2 hv2 hp2 I2 => ?_)
  obtain ⟨r2, rfl, rfl⟩ := hv2
  have hR := k_RK hp2.1 (by decide +kernel) (by decide +kernel) hR
  refine lv_pop C.1 C.2.1 k_L1972 rfl ?_
  refine lv_goto C.1 C.2.1 k_L1973 (tgt := 1989) (by decide) ?_
  exact kk _ _ _ ⟨I2, hR⟩
theorem k_case52 {p : Program} {l : Launch} {e : Env} {s : State} {m : MethodId} {below : List Frame} {meth : Method} {c : Code} {Q : State → Prop} {b L : Nat} {xs : Nat → Int32} {D : va_G} {dA : Nat → ClassId} {a1 a2 i cells slots : Nat} {ls : Array Slot} {w : cWld} {H : Heap} {locs : List Loc} (C : k_Cx p s m c b L xs D dA) (I : k_In s D dA a1 a2 w H locs ∧ k_R a1 a2 w) (hl : lv_has ls 4 (k_lv b a1 a2 i)) (hi : i + 7 ≤ L) (hcb : cells + 26 ≤ 600000) (hsb : slots + 1584 ≤ 7302250)
    (kk : ∀ (w : cWld) (H : Heap) (locs : List Loc), k_In s D dA a1 a2 w H locs ∧ k_R a1 a2 w → W p l e room_1 s m #[Value.ref b] below meth c H locs (cells + 26) (slots + 1584) Q (F0 m 1989 ls [])) : W p l e room_1 s m #[Value.ref b] below meth c H locs cells slots Q (F0 m 1976 ls []) := by
  have hc0 : cells ≤ 600000 := by omega
  have hs0 : slots ≤ 7302250 := by omega
  have hc1 := hcb
  have hs1 := hsb
  obtain ⟨I, hR⟩ := I
  refine lv_aload_n C.1 C.2.1 k_L1976 rfl (lv_at hl 1 rfl) ?_
  obtain ⟨z1_14, hz1_14⟩ := k_fnE (i := 14) I.2.2.1 I.2.2.2.2.1 k_sh12 (by decide)
  refine k_pub C I (a := 199) (idx := 241) (M := k_M199) (ct := k_c199_0) rfl k_pm199_0 rfl (k_in 7 58 rfl rfl) (by decide +kernel) (x := a1) (As := []) (rest := []) [(a1 : Int), z1_14] (k_preC 0 rfl (by decide +kernel) ⟨k_aR I.2.2.2.2.1, trivial⟩ ⟨k_fnC (b := 0) hz1_14 rfl rfl, trivial⟩) (Nat.le_of_ble_eq_true rfl) k_L1977 hc0 hs0 hl.1 (fun rv1 rs1 w1 H1 lo1 hv1 hp1 I1 => ?_)
  obtain ⟨r1, rfl, rfl⟩ := hv1
  have hR := k_RK hp1.1 (by decide +kernel) (by decide +kernel) hR
  refine lv_pop C.1 C.2.1 k_L1980 rfl ?_
  refine lv_aload_n C.1 C.2.1 k_L1981 rfl (lv_at hl 2 rfl) ?_
  obtain ⟨z2_25, hz2_25⟩ := k_fnE (i := 25) I1.2.2.1 I1.2.2.2.2.2.1 k_sh13 (by decide)
  refine k_pub C I1 (a := 356) (idx := 244) (M := k_M356) (ct := k_c356_0) rfl k_pm356_0 rfl (k_in 10 158 rfl rfl) (by decide +kernel) (x := a2) (As := []) (rest := []) [(a2 : Int), 0, z2_25] (k_preC 2 rfl (by decide +kernel) ⟨k_aR I1.2.2.2.2.2.1, trivial⟩ ⟨k_ghc I1.2.2.2.2.2.2 rfl, k_fnC (b := 0) hz2_25 rfl rfl, trivial⟩) (Nat.le_of_ble_eq_true rfl) k_L1982 hc0 hs0 hl.1 (fun rv2 rs2 w2 H2 lo2 hv2 hp2 I2 => ?_)
  obtain ⟨r2, rfl, rfl⟩ := hv2
  have hR := k_RK hp2.1 (by decide +kernel) (by decide +kernel) hR
  refine lv_pop C.1 C.2.1 k_L1985 rfl ?_
  refine lv_goto C.1 C.2.1 k_L1986 (tgt := 1989) (by decide) ?_
  exact W.widen (Nat.le_add_right _ _) (Nat.le_add_right _ _) (kk _ _ _ ⟨I2, hR⟩)
