theorem cl_LW_201 : Cond.constantLong "KnitTreatyLaw" 201 (-1) ∈ kx_tb := kx_in (List.mem_of_getElem? (i := 1294) (by decide +kernel)) rfl
